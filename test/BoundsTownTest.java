/** Promises 1 to 3: each sentence that bounds what can be told in letters, and what a FAULT tells. */
public final class BoundsTownTest {
    private static final String DIGITS = "0123456789";
    private static final String SIGNS = "+-";
    private static final String SIX = "sp+1+0+0;sp+0+1+0;sp+1+1+0;sp+1+2+0;sp+1+3+0;sp+1+4+0;";
    private static final String EIGHT = "p+1+1;p+2+2;p+3+3;p+4+4;p-1-1;p-2-2;p-3-3;p-4-4;";
    private static final String LETTERS_96 =
        "sp+1+0+00;sp+0+1+00;sp+1+1+00;sp+1+2+00;sp+1+3+00;sp+1+4+00;p+1+1;p+2+2;p+3+3;p+4+4;p-1-1;p-2-2;";

    public static void main(String[] args) {
        sixStreets();
        theSeventhStreet();
        aAndB();
        notBothZero();
        cAtItsEnds();
        oneDirection();
        eightPlots();
        theNinthPlot();
        xAndY();
        plotsAlike();
        lettersAtTheirEnds();
        ninetySixLetters();
        aTownOf96();
        eachWithItsEnd();
        kindsOfStreets();
        digitsOfC();
        beginWithZero();
        atLeastOneStatement();
        everyLetterAtEveryPlace();
        theEndIfSomethingLacks();
        kindOneAheadOfKindTwo();
        theLastPlaces();
        theFirstStatement();
        behindAllAheadOfIt();
        allOrNothing();
        lettersAreNoMore();
        earlierLettersAreNoMore();
        theEndOf96();
        nothingIsCounted();
        aNewObject();
        Due.end("BoundsTownTest");
    }

    private static void sixStreets() {
        Due.says("STREETS 0 .. 5 as they come (6 at most)");
        CrossesAllOld x = new CrossesAllOld();
        for (int s = 0; s < 6; s++) {
            Due.is("no street " + s + " yet", 1000000001, x.street(s, 2));
            Due.is("one street more", 1, Due.town(x, SIX.substring(9 * s, 9 * s + 9)));
            Due.is("streets", s + 1, x.count(0));
            Due.is("B of street " + s, SIX.charAt(9 * s + 5) - '0', x.street(s, 2));
        }
        Due.is("all in one text", 6, Due.town(new CrossesAllOld(), SIX));
    }

    private static void theSeventhStreet() {
        Due.says("no room for more (STREETS)");
        CrossesAllOld x = new CrossesAllOld();
        Due.is("the seventh in one text", -2054, Due.town(x, SIX + "sp+1+5+0;"));
        Due.is("none came", 0, x.count(0));
        Due.is("six", 6, Due.town(x, SIX));
        Due.is("the seventh in a text of its own", -2000, Due.town(x, "sp+1+5+0;"));
        Due.is("six stay", 6, x.count(0));
        Due.is("a plot still has room", 1, Due.town(x, "p+1+1;"));
    }

    private static void aAndB() {
        Due.says("A, B -9 .. 9");
        for (int a = -9; a <= 9; a++) {
            for (int b = -9; b <= 9; b++) {
                CrossesAllOld x = new CrossesAllOld();
                String text = "sp" + Due.number(a) + Due.number(b) + "+0;";
                Due.is(text, a == 0 && b == 0 ? -2000 : 1, Due.town(x, text));
                if (a != 0 || b != 0) {
                    Due.is("A of " + text, a, x.street(0, 1));
                    Due.is("B of " + text, b, x.street(0, 2));
                }
            }
        }
        fault("sp+10+0+0;", -1004);
        fault("sp-10+0+0;", -1004);
        fault("sp+01+0+0;", -1004);
        fault("sp+0+10+0;", -1006);
        fault("sp+0-10+0;", -1006);
        fault("sp+0+01+0;", -1006);
    }

    private static void notBothZero() {
        Due.says("not both 0");
        fault("sp+0+0+0;", -2000);
        fault("sp-0-0+0;", -2000);
        fault("sp+0-0+99;", -2000);
        fault("sp-0+0-99;", -2000);
        fault("p+1+1;sp+1+0+0;sp+0+0+0;", -2015);
        Due.is("A alone 0", 1, Due.town(new CrossesAllOld(), "sp-0+1+0;"));
        Due.is("B alone 0", 1, Due.town(new CrossesAllOld(), "sp+1-0+0;"));
    }

    private static void cAtItsEnds() {
        Due.says("C -99 .. 99");
        for (int c = -99; c <= 99; c++) {
            CrossesAllOld x = Due.with("sp+1+0" + Due.number(c) + ";");
            Due.is("C", c, x.street(0, 3));
        }
        fault("sp+1+0+100;", -1009);
        fault("sp+1+0-100;", -1009);
        fault("sp+1+0+000;", -1009);
    }

    private static void oneDirection() {
        Due.says("no two of one direction (A of one times B of the other and the other way round alike)");
        String[] alike = {"+1+2", "+2+4", "-1-2", "-4-8", "+3+6"};
        for (String one : alike) {
            for (String other : alike) {
                fault("sp" + one + "+5;sl" + other + "-7;", -2009);
            }
        }
        fault("sp+0+1+0;sp+0-9+5;", -2009);
        fault("sp+1+0+0;sp-9-0+5;", -2009);
        fault("sp+1+0+0;sp+0+1+0;sp+3-4+0;sp-6+8+5;", -2027);
        String[] unlike = {"+1+2;+2+1", "+1+2;+1-2", "+1+2;-1+2", "+9+8;+8+7", "+1+0;+9+1", "+0+1;+1+9", "+0+1;+1+0", "+6+9;+5+8"};
        for (String two : unlike) {
            String text = "sp" + two.substring(0, 4) + "+5;sp" + two.substring(5) + "+5;";
            Due.is(text, 2, Due.town(new CrossesAllOld(), text));
        }
    }

    private static void eightPlots() {
        Due.says("PLOTS 0 .. 7 as they come (8 at most)");
        CrossesAllOld x = new CrossesAllOld();
        for (int p = 0; p < 8; p++) {
            Due.is("no plot " + p + " yet", 1000000001, x.plot(p, 0));
            Due.is("one plot more", 1, Due.town(x, "p+" + p + "-" + (p + 10) + ";"));
            Due.is("plots", p + 1, x.count(1));
        }
        for (int p = 0; p < 8; p++) {
            Due.is("x of plot " + p, p, x.plot(p, 0));
            Due.is("y of plot " + p, -p - 10, x.plot(p, 1));
        }
        Due.is("all in one text", 8, Due.town(new CrossesAllOld(), EIGHT));
    }

    private static void theNinthPlot() {
        Due.says("no room for more (PLOTS)");
        CrossesAllOld x = new CrossesAllOld();
        Due.is("the ninth in one text", -2048, Due.town(x, EIGHT + "p+5+5;"));
        Due.is("none came", 0, x.count(1));
        Due.is("eight", 8, Due.town(x, EIGHT));
        Due.is("the ninth in a text of its own", -2000, Due.town(x, "p+5+5;"));
        Due.is("eight stay", 8, x.count(1));
        Due.is("a street still has room", 1, Due.town(x, "sp+1+0+0;"));
    }

    private static void xAndY() {
        Due.says("x, y (-20 .. 20)");
        for (int v = -22; v <= 22; v++) {
            boolean there = v >= -20 && v <= 20;
            CrossesAllOld x = new CrossesAllOld();
            Due.is("x " + v, there ? 1 : -2000, Due.town(x, "p" + Due.number(v) + "+7;"));
            Due.is("y " + v, there ? 1 : -2000, Due.town(x, "p+7" + Due.number(v) + ";"));
            Due.is("plots of " + v, there ? 2 : 0, x.count(1));
            if (there) {
                Due.is("x of it", v, x.plot(0, 0));
                Due.is("y of it", v, x.plot(1, 1));
            }
        }
        fault("p+99+0;", -2000);
        fault("p+0-99;", -2000);
        fault("p+21-21;", -2000);
        Due.is("both at their ends", 2, Due.town(new CrossesAllOld(), "p+20-20;p-20+20;"));
    }

    private static void plotsAlike() {
        Due.says("PLOTS .. points");
        CrossesAllOld x = Due.with("p+3-4;p+3-4;sp+1+0+3;");
        Due.is("two at one point", 2, x.count(1));
        Due.is("on a street that comes behind them", -9, x.where(1));
        Due.is("and one more on it", 1, Due.town(x, "p+3+9;"));
    }

    private static void lettersAtTheirEnds() {
        Due.says("A letter (0 .. 255)");
        CrossesAllOld x = new CrossesAllOld();
        Due.is("letter(0)", 1, x.letter(0));
        Due.is("letter(255)", 2, x.letter(255));
        Due.is("letter(-1)", -4, x.letter(-1));
        Due.is("letter(256)", -6, x.letter(256));
        Due.is("two letters", 2, x.count(3));
        for (int far : new int[] {115 + 256, 115 - 256, 115 + 65536, 59 + (1 << 31)}) {
            Due.is("letter(" + far + ")", far < 0 ? -4 : -6, x.letter(far));
        }
        Due.is("two letters still", 2, x.count(3));
    }

    private static void ninetySixLetters() {
        Due.says("96 at most");
        CrossesAllOld x = new CrossesAllOld();
        for (int i = 0; i < 96; i++) {
            Due.is("letter " + i, i + 1, x.letter(LETTERS_96.charAt(i)));
        }
        Due.is("the 97th", -6, x.letter(';'));
        Due.is("96 letters", 96, x.count(3));
        Due.is("the 97th is not in the town", 12, x.town());
        Due.is("the next one is the first", 1, x.letter('p'));
    }

    private static void aTownOf96() {
        Due.says("A TOWN is told in letters (96 at most)");
        CrossesAllOld x = new CrossesAllOld();
        Due.is("twelve statements", 12, Due.town(x, LETTERS_96));
        Due.is("streets", 6, x.count(0));
        Due.is("plots", 6, x.count(1));
        Due.is("the last street", 4, x.street(5, 2));
        Due.is("the last plot", -2, x.plot(5, 1));
        Due.is("the last letter lacks", -1095, Due.town(new CrossesAllOld(), LETTERS_96.substring(0, 95)));
        Due.is("sixteen plots are too many", -2048, Due.town(new CrossesAllOld(), EIGHT + EIGHT));
    }

    private static void eachWithItsEnd() {
        Due.says("STATEMENTS, each with \";\" behind");
        fault("p+1+1p+1+1;", -1005);
        fault("p+1+1", -1005);
        fault("p+1+1;;", -1006);
        fault(";p+1+1;", -1000);
        fault("p+1+1;p+1+1", -1011);
        fault("p+10+10", -1007);
        Due.is("one behind the other", 3, Due.town(new CrossesAllOld(), "p+1+1;sp+1+0+0;p+1+1;"));
    }

    private static void kindsOfStreets() {
        Due.says("a letter of a KIND (p l d g t n)");
        for (int c = 0; c < 256; c++) {
            int kind = "pldgtn".indexOf(c);
            CrossesAllOld x = new CrossesAllOld();
            Due.is("s and letter " + c, kind < 0 ? -1001 : 1, Due.town(x, "s" + (char) c + "+1+0+0;"));
            if (kind >= 0) {
                Due.is("its kind", kind, x.street(0, 0));
            }
        }
    }

    private static void digitsOfC() {
        Due.says("C \"+\" or \"-\" and 1 or 2 digits");
        fault("sp+1+0+;", -1007);
        Due.is("one", 1, Due.town(new CrossesAllOld(), "sp+1+0+9;"));
        Due.is("two", 1, Due.town(new CrossesAllOld(), "sp+1+0+99;"));
        fault("sp+1+0+999;", -1009);
        Due.says("x, y (each \"+\" or \"-\" and 1 or 2 digits)");
        fault("p++1;", -1002);
        fault("p+1+;", -1004);
        Due.is("one each", 1, Due.town(new CrossesAllOld(), "p+9+9;"));
        Due.is("two each", 1, Due.town(new CrossesAllOld(), "p+19+19;"));
        fault("p+119+1;", -1004);
        fault("p+1+119;", -1006);
    }

    private static void beginWithZero() {
        Due.says("Numbers may begin with 0");
        CrossesAllOld x = Due.with("sp+0-1-09;sp+1+0-00;p+09-08;p-00+00;p+0-0;");
        Due.is("C -09", -9, x.street(0, 3));
        Due.is("C -00", 0, x.street(1, 3));
        Due.is("x +09", 9, x.plot(0, 0));
        Due.is("y -08", -8, x.plot(0, 1));
        for (int p = 1; p < 3; p++) {
            Due.is("x 0", 0, x.plot(p, 0));
            Due.is("y 0", 0, x.plot(p, 1));
        }
    }

    private static void atLeastOneStatement() {
        Due.says("At least one STATEMENT");
        CrossesAllOld x = new CrossesAllOld();
        Due.is("town() of no letter", -1000, x.town());
        Due.is("once more", -1000, x.town());
        Due.is("one", 1, Due.town(x, "p+1+1;"));
        Due.is("town() of no letter behind it", -1000, x.town());
        Due.is("the plot stays", 1, x.count(1));
    }

    private static void everyLetterAtEveryPlace() {
        Due.says("kind 1 the place of the first letter with which no TOWN can go on");
        String[] street = {"sp", "pldgtn", SIGNS, DIGITS, SIGNS, DIGITS, SIGNS, DIGITS, DIGITS + ";", ";", "sp"};
        places("sp+1-2+34;", street);
        places("sn-9+0-05;", street);
        String[] shortStreet = street.clone();
        shortStreet[9] = "sp";
        places("st+0+7-8;", shortStreet);
        places("p+1-2;", "sp", SIGNS, DIGITS, DIGITS + SIGNS, DIGITS, DIGITS + ";", "sp");
        places("p-12+13;", "sp", SIGNS, DIGITS, DIGITS + SIGNS, SIGNS, DIGITS, DIGITS + ";", ";", "sp");
        places("p-01+9;", "sp", SIGNS, DIGITS, DIGITS + SIGNS, SIGNS, DIGITS, DIGITS + ";", "sp");
    }

    // With one of these letters the town goes on (it lacks more, or stands); with all others it does not.
    private static void places(String statement, String... goOn) {
        for (int place = 0; place <= statement.length(); place++) {
            String ahead = statement.substring(0, place);
            for (int c = 0; c < 256; c++) {
                boolean good = goOn[place].indexOf(c) >= 0;
                // Behind a whole statement ";" ends the next; behind a half one it ends this.
                int due = good && c == ';' ? 1 : good ? -1000 - place - 1 : -1000 - place;
                letterAt(ahead, c, due);
                if (!good) {
                    Due.is("the letter " + c + " behind p+1+1;" + ahead, due - 6, Due.town(new CrossesAllOld(), "p+1+1;" + ahead + (char) c + ";"));
                }
            }
        }
    }

    private static void letterAt(String ahead, int c, int due) {
        Due.is("the letter " + c + " behind " + ahead, due, Due.town(new CrossesAllOld(), ahead + (char) c));
    }

    private static void theEndIfSomethingLacks() {
        Due.says("the end, if something lacks");
        for (String statement : new String[] {"sp+1-2+34;", "p-12+13;", "p+1-2;"}) {
            for (int length = 0; length < statement.length(); length++) {
                fault(statement.substring(0, length), -1000 - length);
                if (length > 0) {
                    fault("p+1+1;" + statement.substring(0, length), -1006 - length);
                }
            }
        }
    }

    private static void kindOneAheadOfKindTwo() {
        Due.says("else kind 2");
        fault("p+21+0;x", -1007);
        fault("p+21+0;p", -1008);
        fault("sp+0+0+0;sp+0+0+0", -1017);
        fault(EIGHT + "p+1+1;p+1+1;p+1+1;p+1+1;p+1+1;p+1+1;p+1+1;p+1+1.", -1095);
        fault("sp+1+0+0;sp+1+0+0;q", -1018);
    }

    private static void theLastPlaces() {
        Due.says("-1000 less the place; -2000 less the place");
        String ninety = "p+1+1;p+1+1;p+1+1;p+1+1;p+1+1;p+1+1;sp+1+0+0;sp+0+1+0;sp+1+1+0;sp+1+2+0;sp+1+3+0;p+10+10;";
        fault(ninety.substring(0, 89) + "p+9+21;", -2089);
        fault("sp+1+0+00;sp+0+1+00;sp+1+1+00;sp+1+2+00;sp+1+3+00;sp+1+4+00;p+1+1;p+2+2;p+3+3;p+4+4;p-1-1;p+0+21", -1096);
        fault(LETTERS_96.substring(0, 95) + "x", -1095);
        fault("x", -1000);
        fault("p+21+1;", -2000);
        fault("sp+1+0+00;sp+0+1+00;sp+1+1+00;sp+1+2+00;p+01+1;p+02+2;p+3+3;p+4+4;p-1-1;p-2-2;p-3-3;p-4-4;p+0+0;", -2090);
    }

    private static void theFirstStatement() {
        Due.says("kind 2 the place of the first letter of the first STATEMENT that is not as it must be");
        fault("p+1+1;p+21+1;sp+0+0+0;", -2006);
        fault("p+1+1;sp+0+0+0;p+21+1;", -2006);
        fault("sp+1+0+0;p+1+1;p+1+1;sp+2+0+0;sp+0+0+0;", -2021);
        fault("p+00+20;p+00-20;p-20+00;p+20+00;p+20+21;", -2032);
    }

    private static void behindAllAheadOfIt() {
        Due.says("behind all ahead of it in the text");
        CrossesAllOld x = Due.with("sp+1+0+0;sp+0+1+0;sp+1+1+0;sp+1+2+0;sp+1+3+0;p+1+1;p+1+1;p+1+1;p+1+1;p+1+1;p+1+1;p+1+1;");
        Due.is("a direction told in an earlier text", -2000, Due.town(x, "sp+2+2+5;"));
        Due.is("the sixth comes, the seventh lacks room", -2009, Due.town(x, "sp+1+4+0;sp+1+5+0;"));
        Due.is("the eighth comes, the ninth lacks room", -2006, Due.town(x, "p+1+1;p+1+1;"));
        Due.is("a direction ahead in the text", -2015, Due.town(x, "p+1+1;sp+1+4+0;sp+2+8+0;"));
        Due.is("a direction told with a fault was never there", 1, Due.town(x, "sp+2+8+0;"));
        Due.is("the last plot", 1, Due.town(x, "p+1+1;"));
    }

    private static void allOrNothing() {
        Due.says("Without FAULT all of it comes, with one nothing");
        String told = "sp+1+0+0;sl+0+1+3;p+5+5;";
        String[] faults = {"sp+1+1+0;p+1+1;x", "sp+1+1+0;p+1+1;p+1+21;", "sp+1+1+0;p+1+1;p+1+1", "sn+1+1+0;sp+0+0+0;", ""};
        for (String text : faults) {
            CrossesAllOld x = Due.with(told);
            Due.holds("a fault of " + text, Due.town(x, text) < 0);
            Questions.same("behind " + text, Due.with(told), x);
            CrossesAllOld imaged = Due.with(told);
            Due.town(imaged, text);
            Due.is("image() behind " + text, 2, imaged.image());
            Due.is("on() behind " + text, 2, imaged.on());
            Due.is("plots behind " + text, 1, imaged.count(1));
            Due.is("a plot told with a fault was never there", -99, faultOnAStreet(text).spare(9, 0));
        }
        CrossesAllOld x = Due.with(told);
        Due.is("all", 2, Due.town(x, "sg+1+1+0;p+1+1;"));
        Questions.same("as told in one text", Due.with(told + "sg+1+1+0;p+1+1;"), x);
    }

    private static CrossesAllOld faultOnAStreet(String text) {
        CrossesAllOld x = Due.with("sp+0+1+0;");
        Due.holds("a fault behind a plot", Due.town(x, "p-11+0;p+21+0;" + text) < 0);
        return x;
    }

    private static void lettersAreNoMore() {
        Due.says("The letters become a TOWN, and are no more (with a FAULT neither)");
        for (String text : new String[] {"p+1+1;", "p+1+1", "p+21+1;", "x", LETTERS_96}) {
            CrossesAllOld x = new CrossesAllOld();
            Due.town(x, text);
            Due.is("letters behind " + text, 0, x.count(3));
            Due.is("town() behind " + text, -1000, x.town());
            Due.is("a letter behind " + text, 1, x.letter('p'));
            Due.is("town() of it", -1001, x.town());
        }
    }

    // What stood behind the end in an earlier text would go on with a statement, were it still read.
    private static void earlierLettersAreNoMore() {
        Due.says("The letters become a TOWN, and are no more; the end, if something lacks");
        for (String statement : new String[] {"sp+1-2+34;", "sn+1-2+3;", "p-12+13;", "p-1+2;"}) {
            for (int length = 0; length < statement.length(); length++) {
                String cut = statement.substring(0, length);
                CrossesAllOld x = Due.with(statement);
                Due.is(cut + " behind " + statement, -1000 - length, Due.town(x, cut));
                Due.is("a statement ahead of " + cut, 1, Due.town(x, "p+0+0;"));
            }
        }
    }

    private static void theEndOf96() {
        Due.says("96 at most; the end, if something lacks");
        for (String statement : new String[] {"sp+1-2+34;", "p-12+13;"}) {
            for (int length = 1; length < statement.length(); length++) {
                fault(plotsOf(96 - length) + statement.substring(0, length), -1096);
            }
        }
    }

    /** Plots told in just so many letters (30 or more). */
    private static String plotsOf(int letters) {
        int ofSeven = letters % 6;
        return "p+01+1;".repeat(ofSeven) + "p+1+1;".repeat((letters - 7 * ofSeven) / 6);
    }

    private static void nothingIsCounted() {
        Due.says("the FAULT (nothing is counted)");
        CrossesAllOld x = new CrossesAllOld();
        for (String text : new String[] {"", "x", "p+21+1;", "sp+0+0+0;", "p", "sp+1+0+0;sp+1+0+0;"}) {
            Due.town(x, text);
        }
        Due.refusals(x, "behind faults");
    }

    private static void aNewObject() {
        Due.says("A plain without STREETS");
        CrossesAllOld x = new CrossesAllOld();
        for (int what = 0; what <= 16; what++) {
            Due.is("count(" + what + ")", what > 3 && what < 11 ? -9 : 0, x.count(what));
        }
        int[] due = {1, 1, 1, 0, -9, -9};
        int[] got = {x.quarters(), x.open(), x.whole(), x.lamps(), x.taken(-1), x.judge()};
        for (int i = 0; i < due.length; i++) {
            Due.is("question " + i, due[i], got[i]);
        }
        Due.is("no image", -3, x.on());
        Due.is("the plain has quarter 0", 1, x.isOpen(0));
        Due.is("and no quarter 1", -1, x.isOpen(1));
    }

    private static void fault(String letters, int due) {
        Due.is("town " + letters, due, Due.town(new CrossesAllOld(), letters));
    }
}
