/** Promises 4 to 6, 14 and 15: street, plot, crossing, points, lamps. */
public final class StreetsTest {
    public static void main(String[] args) {
        kinds();
        newIsLatest();
        refused();
        crossings();
        points();
        Due.end("StreetsTest");
    }

    // 0, 1 and 2 meet at 0, 0 (a square); a fourth meets each of them apart.
    private static void kinds() {
        for (int kind = 0; kind < 6; kind++) {
            char letter = "pldgtn".charAt(kind);
            CrossesAllOld x = Due.with("s" + letter + "+1+0+0;s" + letter + "+0+1+0;s" + letter + "+1-1+0;");
            int[][] due = {{1, 1, 1}, {2, 2, 2}, {0, 0, 0}, {7, 7, 7}, {1, 2, 3}, {0, 0, 7}};
            int sum = 0;
            for (int s = 0; s < 3; s++) {
                Due.is(letter + " kind", kind, x.street(s, 0));
                Due.is(letter + " lamps of " + s, due[kind][s], x.street(s, 4));
                sum += due[kind][s];
            }
            Due.is(letter + " all lamps", sum, x.lamps());
            Due.is("a fourth", 1, Due.town(x, "s" + letter + "+1+1+4;"));
            int[][] more = {{2, 2, 2, 3}, {4, 4, 4, 6}, {0, 0, 0, 0}, {9, 9, 9, 6}, {2, 4, 6, 12}, {0, 0, 0, 21}};
            sum = 0;
            for (int s = 0; s < 4; s++) {
                Due.is(letter + " lamps of " + s + " of four", more[kind][s], x.street(s, 4));
                sum += more[kind][s];
            }
            Due.is(letter + " all lamps of four", sum, x.lamps());
        }
        Due.is("no street, no lamps", 0, new CrossesAllOld().lamps());
        CrossesAllOld one = Due.with("sg+1+0+0;");
        Due.is("one street meets none", 0, one.street(0, 4));
        Due.is("one street, no lamps", 0, one.lamps());
        CrossesAllOld square = Due.with("sg+1+0+0;sg+0+1+0;sp+1-1+0;sp+1+1+0;");
        Due.is("a square of four", 7, square.street(0, 4));
        Due.is("a plain on a square", 1, square.street(3, 4));
        Due.is("all", 16, square.lamps());
    }

    private static void newIsLatest() {
        CrossesAllOld x = Due.with("sn+1+0+0;sn+0+1+0;");
        Due.is("image()", 2, x.image());
        Due.is("the first", 0, x.street(0, 4));
        Due.is("the latest", 7, x.street(1, 4));
        Due.town(x, "sp+1+1+1;");
        Due.is("no more the latest", 0, x.street(1, 4));
        Due.is("lamps", 2, x.lamps());
        x.on();
        Due.is("the latest again", 7, x.street(1, 4));
        Due.is("lamps then", 7, x.lamps());
    }

    private static void refused() {
        CrossesAllOld x = Due.with("sp+1+0+0;sp+0+1+0;p+1+2;");
        for (int bad : new int[] {-1, 2, 6, Integer.MIN_VALUE, Integer.MAX_VALUE}) {
            Due.is("street(" + bad + ", 0)", 1000000001, x.street(bad, 0));
            Due.is("street(" + bad + ", 9) first -1", 1000000001, x.street(bad, 9));
            Due.is("crossing(" + bad + ", 0, 0)", 1000000001, x.crossing(bad, 0, 0));
            Due.is("crossing(0, " + bad + ", 4)", 1000000001, x.crossing(0, bad, 4));
        }
        Due.is("crossing(1, 1, 0)", 1000000001, x.crossing(1, 1, 0));
        Due.is("crossing(1, 1, 4)", 1000000001, x.crossing(1, 1, 4));
        Due.refusals(x, "after -1", 22);
        for (int bad : new int[] {-1, 1, 8}) {
            Due.is("plot(" + bad + ", 0)", 1000000001, x.plot(bad, 0));
            Due.is("plot(" + bad + ", 2)", 1000000001, x.plot(bad, 2));
        }
        Due.is("street(0, -1)", 1000000002, x.street(0, -1));
        Due.is("street(1, 5)", 1000000002, x.street(1, 5));
        Due.is("plot(0, -1)", 1000000002, x.plot(0, -1));
        Due.is("plot(0, 2)", 1000000002, x.plot(0, 2));
        Due.is("crossing(0, 1, -1)", 1000000002, x.crossing(0, 1, -1));
        Due.is("crossing(0, 1, 4)", 1000000002, x.crossing(0, 1, 4));
        Due.is("points(-1)", -2, x.points(-1));
        Due.is("points(3)", -2, x.points(3));
        Due.refusals(x, "after -2", 28, 8);
    }

    private static void crossings() {
        CrossesAllOld x = Due.with("sp+2+0+3;sp+0-4+6;sp+3+5-99;sp-9+8+99;sp+1+1+0;");
        crossing(x, 0, 1, 3, 2, -3, 2);
        crossing(x, 2, 3, -429, 23, -198, 23);
        crossing(x, 0, 4, 3, 2, -3, 2);
        CrossesAllOld zero = Due.with("sp+7+0+0;sp+0+9+0;sp+6+4-10;");
        crossing(zero, 0, 1, 0, 1, 0, 1);
        crossing(zero, 0, 2, 0, 1, -5, 2);
        crossing(zero, 1, 2, -5, 3, 0, 1);
        CrossesAllOld far = Due.with("sp+9+8+99;sp+8+7-99;");
        crossing(far, 0, 1, -1485, 1, 1683, 1);
    }

    private static void crossing(CrossesAllOld x, int one, int other, int... due) {
        for (int what = 0; what < due.length; what++) {
            Due.is("crossing(" + one + ", " + other + ", " + what + ")", due[what], x.crossing(one, other, what));
            Due.is("crossing(" + other + ", " + one + ", " + what + ")", due[what], x.crossing(other, one, what));
        }
    }

    private static void points() {
        points(new CrossesAllOld(), 0, 0, 0);
        points(Due.with("sp+1+0+0;"), 0, 0, 0);
        points(Due.with("sp+1+0+0;sp+0+1+0;"), 1, 0, 2);
        points(Due.with("sp+1+0+0;sp+0+1+0;sp+1+1+0;"), 1, 1, 3);
        points(Due.with("sp+1+0+0;sp+0+1+0;sp+1+1+1;"), 3, 0, 2);
        points(Due.with("sp+1+0+0;sp+0+1+0;sp+1+1+0;sp+1-1+0;sp+1+2+0;sp+2+1+0;"), 1, 1, 6);
        // Two squares at 0, 0 and 0, 2; on the first 0, 1, 2, on the second 0, 3, 4.
        points(Due.with("sp+1+0+0;sp+0+1+0;sp+1+1+0;sp+2+1+2;sp-1+1+2;"), 6, 2, 3);
        points(Due.with("sp+1+0+0;sp+0+1+0;sp+1+1+1;sp+1+2+5;sp+1+3+7;sp+3+1+9;"), 15, 0, 2);
    }

    private static void points(CrossesAllOld x, int... due) {
        for (int what = 0; what < 3; what++) {
            Due.is("points(" + what + ") of " + x.count(0) + " streets", due[what], x.points(what));
        }
    }
}
