import java.math.BigInteger;
import java.util.HashSet;
import java.util.Set;

/** Promises 25 to 30, and the 512th call: each sentence that names an edge of the ROW, SEEDS, THE IMAGE and counts. */
public final class BoundsRowTest {
    private static final String TRIANGLE = "sp+1+0+0;sp+0+1+0;sp+1+1+4;";
    private static final String SIX = "sp+1+0-9;sp+0+1-9;sp+1+1-9;sp+1-1-9;sp+1+2-9;sp+2+1-9;";
    private static final String EIGHT = "p+1+1;p+2+2;p+3+3;p+4+4;p-1-1;p-2-2;p-3-3;p-4-4;";
    private static final int LEAST = Integer.MIN_VALUE;
    private static final int MOST = Integer.MAX_VALUE;

    public static void main(String[] args) {
        numbersOfARow();
        twelveAtMost();
        judgeOfNone();
        judgeNoQuarter();
        judgeBeside();
        judgeTheLast();
        judgeEmptiesTheRow();
        judgeByThePlainThen();
        seedsAtTheirEnds();
        drawsByHand();
        drawsOfX();
        drawsOfY();
        drawsWrapAround();
        seedsOnAStreet();
        seedsInAllQuarters();
        seedsAreNoPlots();
        imageOfNothing();
        imageOfAll();
        imageLater();
        onWithoutAnImage();
        onLeaves();
        countsAtTheirEnds();
        countsOfRefusals();
        countOfAnotherWhat();
        minusNineIsNotCounted();
        lettersToTheLastCall();
        refusalsToTheLastCall();
        imagesToTheLastCall();
        Due.end("BoundsRowTest");
    }

    private static void numbersOfARow() {
        Due.says("A ROW of numbers (0 .. 63)");
        CrossesAllOld x = new CrossesAllOld();
        Due.is("row(-1)", -4, x.row(-1));
        Due.is("row(64)", -6, x.row(64));
        Due.is("row(least)", -4, x.row(LEAST));
        Due.is("row(most)", -6, x.row(MOST));
        Due.is("row(0)", 1, x.row(0));
        Due.is("row(63)", 2, x.row(63));
        Due.is("count(2)", 2, x.count(2));
        Due.refusals(x, "behind them", 0, 0, 0, 2, 0, 2);
        for (int v = 0; v <= 63; v++) {
            CrossesAllOld six = Due.with(SIX + "p+0+0;");
            Due.is("row(" + v + ")", 1, six.row(v));
            Due.is("judge() of " + v, six.sides(v) < 0 ? 0 : -9, six.judge());
        }
    }

    private static void twelveAtMost() {
        Due.says("A ROW (12 at most)");
        CrossesAllOld x = Due.with(TRIANGLE);
        for (int i = 0; i < 12; i++) {
            Due.is("row " + i, i + 1, x.row(i % 2));
        }
        Due.is("the thirteenth", -6, x.row(3));
        Due.is("the thirteenth again", -6, x.row(0));
        Due.is("twelve", 12, x.count(2));
        Due.is("the twelve are judged", -9, x.judge());
        Due.is("the next one is the first", 1, x.row(3));
        Due.is("none is left of the twelve", -9, x.judge());
    }

    private static void judgeOfNone() {
        Due.says("JUDGED: .. ; -9");
        judge("", -9);
        judge(TRIANGLE, -9);
        judge("", -9, 0);
        judge(TRIANGLE, -9, 7);
        judge("sp+1+0+0;", -9, 0, 1, 0, 1, 0, 1, 0, 1, 0, 1, 0, 1);
    }

    private static void judgeNoQuarter() {
        Due.says("JUDGED: the first that is none");
        judge("", 0, 1);
        judge("", 0, 63);
        judge(TRIANGLE, 0, 4);
        judge(TRIANGLE, 0, 8);
        judge(TRIANGLE, 0, 4, 4);
        judge(TRIANGLE, 1, 0, 4);
        judge(TRIANGLE, 1, 0, 4, 5);
        judge(TRIANGLE, 2, 0, 1, 9);
    }

    private static void judgeBeside() {
        Due.says("or does not lie beside the one ahead (across one STREET)");
        judge("", 1, 0, 0);
        judge(TRIANGLE, 1, 3, 3);
        judge(TRIANGLE, 1, 0, 3);
        judge(TRIANGLE, 1, 0, 7);
        judge(TRIANGLE, 2, 3, 1, 2);
        judge(TRIANGLE, -9, 3, 1, 0, 2, 6, 7, 5, 1, 3, 7, 6, 2);
        // At a square 2 and 5 lie across from each other, over three streets at once.
        judge("sp+1+0+0;sp+0+1+0;sp+1-1+0;", 1, 2, 5);
        judge("sp+1+0+0;sp+0+1+0;sp+1-1+0;", -9, 2, 0, 4, 5, 7, 3, 2);
    }

    private static void judgeTheLast() {
        Due.says("JUDGED: a ROW's last place is 11");
        judge(TRIANGLE, 11, 0, 1, 0, 1, 0, 1, 0, 1, 0, 1, 0, 3);
        judge(TRIANGLE, 11, 0, 1, 0, 1, 0, 1, 0, 1, 0, 1, 0, 0);
        judge(TRIANGLE, 11, 0, 1, 0, 1, 0, 1, 0, 1, 0, 1, 0, 63);
        judge(TRIANGLE, 10, 0, 1, 0, 1, 0, 1, 0, 1, 0, 1, 63, 1);
    }

    private static void judgeEmptiesTheRow() {
        Due.says("whichever it answers, the ROW has none then");
        int[][] rows = {{}, {0}, {4}, {0, 0}, {0, 1, 3}, {0, 1, 2, 3, 4}};
        for (int[] row : rows) {
            CrossesAllOld x = Due.with(TRIANGLE);
            for (int v : row) {
                x.row(v);
            }
            x.judge();
            Due.is("count(2) behind " + row.length, 0, x.count(2));
            Due.is("judge() again", -9, x.judge());
            Due.is("row(7) is the first", 1, x.row(7));
            Due.is("and is beside none", -9, x.judge());
        }
    }

    private static void judgeByThePlainThen() {
        Due.says("NUMBERS of QUARTERS (as they are when it is judged)");
        CrossesAllOld x = new CrossesAllOld();
        x.row(0);
        x.row(1);
        x.row(3);
        Due.town(x, "sp+1+0+0;sp+0+1+0;");
        Due.is("streets came behind the row", -9, x.judge());
        x.image();
        x.row(3);
        x.row(7);
        Due.town(x, "sp+1+1+4;");
        x.on();
        Due.is("a street went behind the row", 1, x.judge());
    }

    private static void seedsAtTheirEnds() {
        Due.says("n PLOTS (1 .. 30)");
        CrossesAllOld x = Due.with(TRIANGLE);
        for (int z : new int[] {0, -1, LEAST, MOST}) {
            Due.is("seeds(0, z)", -4, x.seeds(0, z));
            Due.is("seeds(-1, z)", -4, x.seeds(-1, z));
            Due.is("seeds(least, z)", -4, x.seeds(LEAST, z));
            Due.is("seeds(31, z)", -6, x.seeds(31, z));
            Due.is("seeds(most, z)", -6, x.seeds(MOST, z));
            Due.is("seeds(1, z)", drawn(1, z), x.seeds(1, z));
            Due.is("seeds(30, z)", drawn(30, z), x.seeds(30, z));
        }
        Due.refusals(x, "behind them", 0, 0, 0, 12, 0, 8);
        Due.is("one on a bare plain", 1, new CrossesAllOld().seeds(1, 7));
        Due.is("thirty on a bare plain", 1, new CrossesAllOld().seeds(30, 7));
    }

    // By 0 z becomes 1013904223, 1196435762, 3519870697 (-775096599) and 2868466484 (-1426500812):
    // DRAWS 4, 28, 13, 8; the plots are -16, 8 and -7, -12.
    private static void drawsByHand() {
        Due.says("x and y DRAWS below 41, less 20");
        Due.is("x -16", 0, Due.with("sp+1+0-16;").seeds(1, 0));
        Due.is("y 8", 0, Due.with("sp+0+1+8;").seeds(1, 0));
        Due.is("x -16 and -7, the one on a street", 1, Due.with("sp+1+0-16;").seeds(2, 0));
        Due.is("x -16 and -7, the other on a street", 1, Due.with("sp+1+0-7;").seeds(2, 0));
        Due.is("y -12 on a street", 1, Due.with("sp+0+1-12;").seeds(2, 0));
        Due.is("on either hand of x -8", 2, Due.with("sp+1+0-8;").seeds(2, 0));
        Due.is("on either hand of y 0", 2, Due.with("sp+0+1+0;").seeds(2, 0));
        Due.is("on one hand of y 9", 1, Due.with("sp+0+1+9;").seeds(2, 0));
        Due.is("each on a street", 0, Due.with("sp+1+0-16;sp+0+1-12;").seeds(2, 0));
    }

    private static void drawsOfX() {
        Due.says("x (-20 .. 20)");
        drawsOf(0, "sp+1+0");
    }

    private static void drawsOfY() {
        Due.says("y (-20 .. 20)");
        drawsOf(1, "sp+0+1");
    }

    // Only the street through the plot leaves it in no quarter.
    private static void drawsOf(int which, String street) {
        for (int c = -22; c <= 22; c++) {
            CrossesAllOld x = Due.with(street + Due.number(c) + ";");
            for (int z = -100; z < 100; z++) {
                Due.is("seed " + z + " by " + street + Due.number(c), plots(1, z)[0][which] == c ? 0 : 1, x.seeds(1, z));
            }
        }
    }

    private static void drawsWrapAround() {
        Due.says("z becomes z times 1664525 and 1013904223 (an int); (z without its sign's bit by 256, cut)");
        CrossesAllOld x = Due.with(TRIANGLE);
        int[] seeds = {MOST, MOST - 1, LEAST, LEAST + 1, -1, 0, 1, 1291, -1291, 1 << 30, -(1 << 30), 255, 256, -256, -257};
        for (int z : seeds) {
            for (int n = 1; n <= 30; n++) {
                Due.is("seeds(" + n + ", " + z + ")", drawn(n, z), x.seeds(n, z));
            }
        }
    }

    private static void seedsOnAStreet() {
        Due.says("in how many unlike QUARTERS they lie (on a STREET in none)");
        for (int z = -20; z < 20; z++) {
            int[] plot = plots(1, z)[0];
            CrossesAllOld x = Due.with("sp+1+0" + Due.number(plot[0]) + ";sp+0+1" + Due.number(plot[1]) + ";");
            Due.is("on both streets", 0, x.seeds(1, z));
            Due.is("a quarter is counted once", drawn(30, z, new int[][] {{1, 0, plot[0]}, {0, 1, plot[1]}}), x.seeds(30, z));
        }
    }

    private static void seedsInAllQuarters() {
        Due.says("in how many unlike QUARTERS they lie (0 to 63)");
        int[][] streets = {{1, 0, -9}, {0, 1, -9}, {1, 1, -9}, {1, -1, -9}, {1, 2, -9}, {2, 1, -9}};
        CrossesAllOld x = Due.with(SIX);
        for (int z = -10; z < 10; z++) {
            Due.is("one of seed " + z, drawn(1, z, streets), x.seeds(1, z));
            Due.is("thirty of seed " + z, drawn(30, z, streets), x.seeds(30, z));
        }
    }

    private static void seedsAreNoPlots() {
        Due.says("all that is told");
        CrossesAllOld x = Due.with(TRIANGLE + "p+1+1;");
        int once = x.seeds(30, 9);
        Due.is("the same again", once, x.seeds(30, 9));
        Due.is("plots", 1, x.count(1));
        Questions.same("behind seeds", Due.with(TRIANGLE + "p+1+1;"), x);
    }

    private static void imageOfNothing() {
        Due.says("THE IMAGE is taken: how many STREETS");
        CrossesAllOld x = new CrossesAllOld();
        Due.is("image() of nothing", 0, x.image());
        Due.is("on()", 0, x.on());
        Due.town(x, SIX);
        Due.town(x, EIGHT);
        Due.is("on() from six streets", 0, x.on());
        Questions.same("a bare plain again", imaged(new CrossesAllOld()), x);
    }

    private static void imageOfAll() {
        Due.says("ON from it all is as then");
        CrossesAllOld x = full();
        Due.is("image()", 6, x.image());
        Due.is("on()", 6, x.on());
        Questions.same("as it was", imaged(full()), x);
        CrossesAllOld emptied = new CrossesAllOld();
        emptied.image();
        Due.town(emptied, SIX);
        emptied.on();
        Due.is("room for six", 6, Due.town(emptied, SIX));
        Due.is("room for eight", 8, Due.town(emptied, EIGHT));
    }

    private static void imageLater() {
        Due.says("ON from it (the latest one; once and again)");
        CrossesAllOld x = Due.with("sp+1+0+0;p+1+1;");
        x.image();
        Due.town(x, "sp+0+1+0;p+2+2;");
        Due.is("image() again", 2, x.image());
        Due.town(x, "sp+1+1+4;p+3+3;");
        for (int i = 0; i < 3; i++) {
            Due.is("on()", 2, x.on());
            Due.is("plots", 2, x.count(1));
            Due.is("quarters", 4, x.quarters());
            Due.town(x, "sl+1-1+4;p+9+9;");
        }
        Due.is("the image is not what came behind it", 2, x.on());
        Due.is("B of street 1", 1, x.street(1, 2));
    }

    private static void onWithoutAnImage() {
        Due.says("on: -3 there is none");
        CrossesAllOld x = new CrossesAllOld();
        Due.is("on()", -3, x.on());
        Due.town(x, TRIANGLE);
        Due.is("on() with streets", -3, x.on());
        Due.is("streets stay", 3, x.count(0));
        Due.refusals(x, "behind them", 0, 0, 2);
        x.image();
        Due.is("on()", 3, x.on());
        Due.refusals(x, "behind an image", 0, 0, 2);
    }

    private static void onLeaves() {
        Due.says("THE IMAGE: all that is told (not the ROW, letters, REFUSALS)");
        CrossesAllOld x = Due.with(TRIANGLE);
        x.row(3);
        Due.tell(x, "p+1");
        x.corners(4);
        x.image();
        x.row(7);
        Due.tell(x, "+2;");
        x.corners(4);
        x.with(-1);
        Due.is("on()", 3, x.on());
        Due.is("the row", 2, x.count(2));
        Due.is("the letters", 6, x.count(3));
        Due.refusals(x, "behind on", 2, 0, 0, 1);
        Due.is("the row is judged", -9, x.judge());
        Due.is("the letters are a town", 1, x.town());
        Due.is("y of the plot", 2, x.plot(0, 1));
        Due.is("on() again", 3, x.on());
        Due.is("the row is no more", 0, x.count(2));
        Due.is("the letters are no more", 0, x.count(3));
        Due.is("the plot is no more", 0, x.count(1));
    }

    private static void countsAtTheirEnds() {
        Due.says("count: 0 STREETS, 1 PLOTS, 2 in the ROW, 3 letters");
        int[] none = {0, 0, 0, 0};
        int[] all = {6, 8, 12, 96};
        CrossesAllOld x = full();
        for (int i = 0; i < 12; i++) {
            x.row(0);
        }
        Due.tell(x, "p+1+1;".repeat(16));
        for (int what = 0; what < 4; what++) {
            Due.is("count(" + what + ") of nothing", none[what], new CrossesAllOld().count(what));
            Due.is("count(" + what + ") of all", all[what], x.count(what));
        }
        x.row(0);
        x.letter(';');
        for (int what = 0; what < 4; what++) {
            Due.is("count(" + what + ") behind more", all[what], x.count(what));
        }
    }

    private static void countsOfRefusals() {
        Due.says("count: 11 .. 16 REFUSALS -1 .. -6");
        int[] due = new int[6];
        CrossesAllOld x = new CrossesAllOld();
        for (int i = 0; i < 20; i++) {
            x.where(0);
            due[0]++;
            Due.refusals(x, "of -1", due);
            x.points(3);
            due[1]++;
            Due.refusals(x, "of -2", due);
            x.most(0, 0);
            due[2]++;
            Due.refusals(x, "of -3", due);
            x.row(-1);
            due[3]++;
            Due.refusals(x, "of -4", due);
            x.row(64);
            due[5]++;
            Due.refusals(x, "of -6", due);
        }
    }

    private static void countOfAnotherWhat() {
        Due.says("count: -9 for another what");
        CrossesAllOld x = Due.with(TRIANGLE);
        for (int what = -20; what <= 40; what++) {
            boolean known = what >= 0 && what <= 3 || what >= 11 && what <= 16;
            Due.is("count(" + what + ")", known ? what == 0 ? 3 : 0 : -9, x.count(what));
        }
        for (int what : new int[] {LEAST, LEAST + 11, MOST, 256, 256 + 11, 65536}) {
            Due.is("count(" + what + ")", -9, x.count(what));
        }
        Due.refusals(x, "behind them");
    }

    private static void minusNineIsNotCounted() {
        Due.says("REFUSALS -1 .. -6 (-9, -999 and a FAULT are answers)");
        CrossesAllOld x = new CrossesAllOld();
        x.taken(-1);
        x.judge();
        x.town();
        Due.town(x, "sp+1+0+0;p+0+0;p+1+1;");
        Due.town(x, "sp+1+0+0;");
        x.where(0);
        x.steps(0, 1);
        x.next(0, 1, 0, 0);
        x.fear(0, 0);
        x.spare(0, 1);
        x.count(4);
        Due.refusals(x, "behind them");
    }

    private static void lettersToTheLastCall() {
        Due.says("An object is used for at most 512 calls (letters)");
        CrossesAllOld x = new CrossesAllOld();
        int calls = 0;
        String text = "p+1+1;";
        for (int round = 0; round < 5; round++) {
            for (int i = 0; i < 96; i++) {
                Due.is("letter", i + 1, x.letter(text.charAt(i % 6)));
                calls++;
            }
            Due.is("town()", -2048, x.town());
            calls++;
        }
        for (int i = 0; calls < 511; i++) {
            Due.is("letter", i + 1, x.letter(text.charAt(i % 6)));
            calls++;
        }
        Due.is("the 512th call, of 26 letters", -1026, x.town());
    }

    private static void refusalsToTheLastCall() {
        Due.says("An object is used for at most 512 calls (REFUSALS)");
        CrossesAllOld x = new CrossesAllOld();
        for (int i = 0; i < 511; i++) {
            Due.is("spare(0, 0)", 1000000003, x.spare(0, 0));
        }
        Due.is("the 512th call", 511, x.count(13));
    }

    private static void imagesToTheLastCall() {
        Due.says("An object is used for at most 512 calls (images)");
        CrossesAllOld x = Due.with(TRIANGLE);
        for (int i = 28; i < 511; i += 3) {
            Due.is("image()", 3, x.image());
            Due.is("on()", 3, x.on());
            Due.is("quarters()", 7, x.quarters());
        }
        Due.is("the 512th call", 6, x.open());
    }

    private static void judge(String town, int due, int... row) {
        CrossesAllOld x = new CrossesAllOld();
        Due.town(x, town);
        StringBuilder told = new StringBuilder();
        for (int i = 0; i < row.length; i++) {
            Due.is("row", i + 1, x.row(row[i]));
            told.append(' ').append(row[i]);
        }
        Due.is("judge() of" + told + " in " + town, due, x.judge());
    }

    // How many of the triangle's quarters the plots lie in.
    private static int drawn(int n, int z) {
        return drawn(n, z, new int[][] {{1, 0, 0}, {0, 1, 0}, {1, 1, 4}});
    }

    private static int drawn(int n, int z, int[][] streets) {
        Set<Integer> quarters = new HashSet<>();
        for (int[] plot : plots(n, z)) {
            boolean on = false;
            int quarter = 0;
            for (int s = 0; s < streets.length; s++) {
                int height = streets[s][0] * plot[0] + streets[s][1] * plot[1] - streets[s][2];
                on |= height == 0;
                quarter |= height > 0 ? 1 << s : 0;
            }
            if (!on) {
                quarters.add(quarter);
            }
        }
        return quarters.size();
    }

    // The DRAWS with numbers that have no end: cut to 32 bits, then to 31.
    private static int[][] plots(int n, int z) {
        int[][] plots = new int[n][2];
        BigInteger seed = BigInteger.valueOf(z);
        for (int[] plot : plots) {
            for (int i = 0; i < 2; i++) {
                seed = seed.multiply(BigInteger.valueOf(1664525)).add(BigInteger.valueOf(1013904223)).mod(BigInteger.ONE.shiftLeft(32));
                plot[i] = (int) (seed.longValue() % (1L << 31) / 256 % 41) - 20;
            }
        }
        return plots;
    }

    private static CrossesAllOld full() {
        CrossesAllOld x = Due.with(SIX);
        Due.town(x, EIGHT);
        return x;
    }

    private static CrossesAllOld imaged(CrossesAllOld x) {
        x.image();
        return x;
    }
}
