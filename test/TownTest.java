/** Promises 1 to 3: a new object, letter, town. */
public final class TownTest {
    public static void main(String[] args) {
        newObject();
        letters();
        lettersRefused();
        goodTowns();
        faultsOfLetters();
        faultsOfStatements();
        faultChangesNothing();
        noLetterOfAnEarlierTown();
        Due.end("TownTest");
    }

    private static void newObject() {
        CrossesAllOld x = new CrossesAllOld();
        for (int what = 0; what <= 3; what++) {
            Due.is("new: count(" + what + ")", 0, x.count(what));
        }
        Due.refusals(x, "new");
        Due.is("new: quarters()", 1, x.quarters());
        Due.is("new: open()", 1, x.open());
        Due.is("new: street(0, 0)", 1000000001, x.street(0, 0));
        Due.is("new: plot(0, 0)", 1000000001, x.plot(0, 0));
        Due.is("new: judge()", -9, x.judge());
        Due.is("new: on()", -3, x.on());
        Due.is("new: town()", -1000, x.town());
    }

    private static void letters() {
        CrossesAllOld x = new CrossesAllOld();
        Due.is("letter(0)", 1, x.letter(0));
        Due.is("letter(255)", 2, x.letter(255));
        Due.is("letter(115)", 3, x.letter(115));
        Due.is("count(3)", 3, x.count(3));
        Due.is("two objects hold their own letters", 1, new CrossesAllOld().letter(1));
    }

    private static void lettersRefused() {
        CrossesAllOld x = new CrossesAllOld();
        Due.is("letter(-1)", -4, x.letter(-1));
        Due.is("letter(least)", -4, x.letter(Integer.MIN_VALUE));
        Due.is("letter(256)", -6, x.letter(256));
        Due.is("letter(most)", -6, x.letter(Integer.MAX_VALUE));
        Due.is("none of them came", 0, x.count(3));
        for (int i = 1; i <= 96; i++) {
            Due.is("letter " + i, i, x.letter(';'));
        }
        Due.is("letter 97", -6, x.letter('s'));
        Due.is("letter 97 below", -4, x.letter(-1));
        Due.is("letter 97 above", -6, x.letter(256));
        Due.is("96 stay", 96, x.count(3));
        Due.refusals(x, "after letters", 0, 0, 0, 3, 0, 4);
        Due.is("town() of 96 letters", -1000, x.town());
        Due.is("room again", 1, x.letter('s'));
    }

    private static void goodTowns() {
        CrossesAllOld x = new CrossesAllOld();
        Due.is("a street", 1, Due.town(x, "sp+1-0+00;"));
        Due.is("letters are no more", 0, x.count(3));
        Due.is("two more", 2, Due.town(x, "sn-9+9-99;p-20+20;"));
        Due.is("numbers may begin with 0", 3, Due.town(x, "st+0+1+09;p+05-00;p-0+7;"));
        Due.is("streets", 3, x.count(0));
        Due.is("plots", 3, x.count(1));
        street(x, 0, 0, 1, 0, 0);
        street(x, 1, 5, -9, 9, -99);
        street(x, 2, 4, 0, 1, 9);
        plot(x, 0, -20, 20);
        plot(x, 1, 5, 0);
        plot(x, 2, 0, 7);
        Due.is("each kind", 3, Due.town(x, "sl+1+1+1;sd+1+2+1;sg+1+3+99;"));
        street(x, 3, 1, 1, 1, 1);
        street(x, 4, 2, 1, 2, 1);
        street(x, 5, 3, 1, 3, 99);
        CrossesAllOld full = new CrossesAllOld();
        String eight = "p+1+1;p+2+2;p+3+3;p+4+4;p-1-1;p-2-2;p-3-3;p-4-4;";
        Due.is("48 letters", 8, Due.town(full, eight));
        Due.tell(full, "sp+1+0+00;sp+0+1+00;sp+1+1+00;sp+1+2+00;sp+1+3+00;sp+1+4+00;");
        Due.is("60 letters", 60, full.count(3));
        Due.is("six streets", 6, full.town());
        CrossesAllOld last = new CrossesAllOld();
        Due.tell(last, "sp+1+0+00;sp+0+1+00;sp+1+1+00;sp+1+2+00;sp+1+3+00;sp+1+4+00;p+1+1;p+1+1;p+1+1;p+20+20;p-20-20;");
        Due.is("ninety-four letters", 94, last.count(3));
        Due.is("town of 94", 11, last.town());
        Due.tell(last, "p+20+20;p-00-00;p-00-00;");
        Due.is("a full town goes on to eight plots", 3, last.town());
    }

    private static void street(CrossesAllOld x, int number, int... due) {
        for (int what = 0; what < due.length; what++) {
            Due.is("street(" + number + ", " + what + ")", due[what], x.street(number, what));
        }
    }

    private static void plot(CrossesAllOld x, int number, int... due) {
        for (int what = 0; what < due.length; what++) {
            Due.is("plot(" + number + ", " + what + ")", due[what], x.plot(number, what));
        }
    }

    private static void faultsOfLetters() {
        fault("", -1000);
        fault(";", -1000);
        fault("x", -1000);
        fault("S", -1000);
        fault("s", -1001);
        fault("p", -1001);
        fault("ss", -1001);
        fault("sx+1+0+0;", -1001);
        fault("s+1+0+0;", -1001);
        fault("s" + (char) 0, -1001);
        fault("s" + (char) 255, -1001);
        fault("sp", -1002);
        fault("sp1", -1002);
        fault("sp++1+0+0;", -1003);
        fault("sp+;", -1003);
        fault("sp+10+0+0;", -1004);
        fault("sp+1+10+0;", -1006);
        fault("sp+1+0;", -1006);
        fault("sp+1+0+;", -1007);
        fault("sp+1+0+5", -1008);
        fault("sp+1+0+5+", -1008);
        fault("sp+1+0+55", -1009);
        fault("sp+1+0+555;", -1009);
        fault("sp+1+0+5;;", -1009);
        fault("sp+1+0+5;s", -1010);
        fault("sp+1+0+5;p+1+1", -1014);
        fault("sp+1+0+5; p+1+1;", -1009);
        fault("p+1;", -1003);
        fault("p+1+1+1;", -1005);
        fault("p+111+1;", -1004);
        fault("p+1+111;", -1006);
        fault("p+/+1;", -1002);
        fault("p+:+1;", -1002);
        fault("p,1+1;", -1001);
        fault("pp+1+1;", -1001);
        fault("p+1+1;p+1+1;p+1+1;p+1+1;p+1+1;p+1+1;p+1+1;p+1+1;p+1+1;p+1+1;p+1+1;p+1+1;p+1+1;p+1+1;p+1+1;p+1+1", -1095);
        fault("p+1+1;p+1+1;p+1+1;p+1+1;p+1+1;p+1+1;p+1+1;p+1+1;p+1+1;p+1+1;p+1+1;p+1+1;p+1+1;p+1+1;p+1+1;p+1+11", -1096);
        // Kind 1 goes ahead of kind 2, wherever they are.
        fault("p+21+0;x", -1007);
        fault("sp+0+0+0;p+1+1", -1014);
    }

    private static void faultsOfStatements() {
        fault("sp+0+0+0;", -2000);
        fault("sp-0+0+0;", -2000);
        fault("sp+1+0+0;sp+1+0+0;", -2009);
        fault("sp+1+0+0;sp-1+0+0;", -2009);
        fault("sp+1+2+0;p+1+1;sl+2+4+7;", -2015);
        fault("sp+1+2+0;p+1+1;sl-3-6+7;", -2015);
        fault("p+21+0;", -2000);
        fault("p-21+0;", -2000);
        fault("p+0+21;", -2000);
        fault("p+0-21;", -2000);
        fault("p+20+20;p-20-99;p+99+99;", -2008);
        fault("sp+1+0+0;sp+0+1+0;sp+1+1+0;sp+1+2+0;sp+1+3+0;sp+1+4+0;sp+1+5+0;", -2054);
        fault("p+1+1;p+1+1;p+1+1;p+1+1;p+1+1;p+1+1;p+1+1;p+1+1;p+1+1;", -2048);
        CrossesAllOld x = Due.with("sp+2-3+4;");
        Due.is("a direction told in an earlier town", -2006, Due.town(x, "p+1+1;sl-4+6+4;"));
        CrossesAllOld many = Due.with("sp+1+0+0;sp+0+1+0;sp+1+1+0;sp+1+2+0;sp+1+3+0;p+1+1;p+1+1;p+1+1;p+1+1;p+1+1;p+1+1;p+1+1;");
        Due.is("room for one street", -2009, Due.town(many, "sl+1+4+0;sl+1+5+0;"));
        Due.is("room for one plot", -2006, Due.town(many, "p+1+1;p+1+1;"));
        Due.is("the last of both", 2, Due.town(many, "p+1+1;sl+1+5+0;"));
        Due.is("no street more", -2000, Due.town(many, "sl+1+6+0;"));
        Due.is("no plot more", -2000, Due.town(many, "p+1+1;"));
        fault("p+1+1;p+1+1;p+1+1;p+1+1;p+1+1;p+1+1;p+1+1;sp+1+0+00;sp+0+1+00;sp+1+1+00;sp+1+2+0;p+10+10;p+1+11;", -2089);
    }

    private static void fault(String letters, int due) {
        CrossesAllOld x = new CrossesAllOld();
        Due.is("town " + letters, due, Due.town(x, letters));
        Due.is("letters behind " + letters, 0, x.count(3));
        Due.is("streets behind " + letters, 0, x.count(0));
        Due.is("plots behind " + letters, 0, x.count(1));
        Due.refusals(x, "behind " + letters);
    }

    private static void faultChangesNothing() {
        CrossesAllOld x = Due.with("sp+1+0+0;p+5+5;");
        Due.is("all or nothing", -2015, Due.town(x, "sl+0+1+0;p+1+1;p+1+99;"));
        Due.is("streets stay", 1, x.count(0));
        Due.is("plots stay", 1, x.count(1));
        Due.is("quarters stay", 2, x.quarters());
        Due.is("the same behind", 2, Due.town(x, "sl+0+1+0;p+1+1;"));
        Due.is("two streets", 2, x.count(0));
        Due.is("two plots", 2, x.count(1));
        Due.is("four quarters", 4, x.quarters());
        Due.is("the new street", 1, x.street(1, 0));
        Due.is("the new plot", 1, x.plot(1, 1));
    }

    private static void noLetterOfAnEarlierTown() {
        for (String whole : new String[] {"sp+1+0+00;", "p-10+10;", "st-9-9-99;p+1+1;"}) {
            for (int length = 0; length < whole.length(); length++) {
                if (length == 0 || whole.charAt(length - 1) != ';') {
                    CrossesAllOld x = Due.with(whole);
                    Due.is(whole + " and behind it " + length + " letters of it", -1000 - length, Due.town(x, whole.substring(0, length)));
                }
            }
        }
    }
}
