/** Promises 4 to 15: each sentence that names an edge of streets, crossings, points, lamps and quarters. */
public final class BoundsPlainTest {
    private static final String[] APART = {"sp+1+0+0;", "sl+0+1+0;", "sd+1+1+1;", "sg+1-1+3;", "st+2+1+7;", "sn+1+2-9;"};
    private static final String[] STAR = {"sp+1+0+0;", "sl+0+1+0;", "sd+1+1+0;", "sg+1-1+0;", "st+1+2+0;", "sn+2+1+0;"};
    private static final String HEXAGON = "sp+1+0-9;sp+9+1+80;sp+0+1-9;sp+1+9+80;sp+1-1-9;sp+9-8+80;";
    private static final int FAR = 1000000000;

    public static void main(String[] args) {
        numbersOfStreets();
        whatOfStreets();
        numbersOfPlots();
        whatOfPlots();
        numbersOfCrossings();
        whatOfCrossings();
        aboveAndBelow();
        farCrossings();
        sideOfAPoint();
        numbersOfQuarters();
        justIfThereIsSuchAPoint();
        noQuarterZero();
        aBarePlain();
        oneStreet();
        upToSixApart();
        upToSixAtOnePoint();
        cornersOfQuarters();
        withSoManyCorners();
        atAllStreets();
        openOrClosed();
        pointsAndSquares();
        mostAtOnePoint();
        lampsWithoutPoints();
        lampsOnASquare();
        lampsByNumber();
        lampsOfTheLatest();
        Due.end("BoundsPlainTest");
    }

    private static void numbersOfStreets() {
        Due.says("-1 NOBODY: no such STREET");
        int[] c = {0, 0, 1, 3, 7, -9};
        int[] lamps = {1, 2, 0, 2, 5, 7};
        for (int streets = 0; streets <= 6; streets++) {
            for (int s = -1; s <= 6; s++) {
                CrossesAllOld x = Due.first(APART, streets);
                boolean there = s >= 0 && s < streets;
                String of = " of street " + s + " of " + streets;
                Due.is("KIND" + of, there ? s : FAR + 1, x.street(s, 0));
                Due.is("C" + of, there ? c[s] : FAR + 1, x.street(s, 3));
                Due.is("all LAMPS" + of, there ? lamps[s] * (streets - 1) : FAR + 1, x.street(s, 4));
                Due.refusals(x, of, there ? 0 : 3);
            }
        }
    }

    private static void whatOfStreets() {
        Due.says("street: 0 KIND .. 4 all LAMPS from it; -2 OTHER");
        CrossesAllOld x = Due.with("sn-9+8-99;");
        int[] due = {FAR + 2, 5, -9, 8, -99, 0, FAR + 2, FAR + 2};
        for (int what = -1; what <= 6; what++) {
            Due.is("street(0, " + what + ")", due[what + 1], x.street(0, what));
        }
        Due.is("street(0, least)", FAR + 2, x.street(0, Integer.MIN_VALUE));
        Due.is("street(0, most)", FAR + 2, x.street(0, Integer.MAX_VALUE));
        Due.refusals(x, "behind it", 0, 5);
    }

    private static void numbersOfPlots() {
        Due.says("-1 NOBODY: no such PLOT");
        for (int plots = 0; plots <= 8; plots++) {
            for (int p = -1; p <= 8; p++) {
                CrossesAllOld x = new CrossesAllOld();
                Due.town(x, "p+0+9;p-1+8;p-2+7;p-3+6;p-4+5;p-5+4;p-6+3;p-7+2;".substring(0, 6 * plots));
                boolean there = p >= 0 && p < plots;
                Due.is("plot(" + p + ", 0) of " + plots, there ? -p : FAR + 1, x.plot(p, 0));
                Due.is("plot(" + p + ", 1) of " + plots, there ? 9 - p : FAR + 1, x.plot(p, 1));
                Due.refusals(x, "behind it", there ? 0 : 2);
            }
        }
    }

    private static void whatOfPlots() {
        Due.says("plot: 0 x, 1 y; -2 OTHER");
        CrossesAllOld x = Due.with("p-20+20;");
        Due.is("x", -20, x.plot(0, 0));
        Due.is("y", 20, x.plot(0, 1));
        for (int what : new int[] {-1, 2, Integer.MIN_VALUE, Integer.MAX_VALUE}) {
            Due.is("plot(0, " + what + ")", FAR + 2, x.plot(0, what));
        }
        Due.refusals(x, "behind it", 0, 4);
    }

    private static void numbersOfCrossings() {
        Due.says("crossing: -1 either (one twice, too)");
        for (int streets = 0; streets <= 6; streets++) {
            for (int one = -1; one <= 6; one++) {
                for (int other = -1; other <= 6; other++) {
                    boolean there = one >= 0 && one < streets && other >= 0 && other < streets && one != other;
                    CrossesAllOld x = Due.first(STAR, streets);
                    Due.is("crossing(" + one + ", " + other + ", 0)", there ? 0 : FAR + 1, x.crossing(one, other, 0));
                    Due.is("crossing(" + one + ", " + other + ", 3)", there ? 1 : FAR + 1, x.crossing(one, other, 3));
                    Due.refusals(x, "behind it", there ? 0 : 2);
                }
            }
        }
    }

    private static void whatOfCrossings() {
        Due.says("crossing: 0, 1 x above, below the line, 2, 3 y likewise; -2");
        CrossesAllOld x = Due.with("sp+2+0+3;sp+0+5-7;");
        int[] due = {FAR + 2, 3, 2, -7, 5, FAR + 2};
        for (int what = -1; what <= 4; what++) {
            Due.is("crossing(0, 1, " + what + ")", due[what + 1], x.crossing(0, 1, what));
            Due.is("crossing(1, 0, " + what + ")", due[what + 1], x.crossing(1, 0, what));
        }
        Due.is("crossing(0, 1, least)", FAR + 2, x.crossing(0, 1, Integer.MIN_VALUE));
        Due.is("crossing(0, 1, most)", FAR + 2, x.crossing(0, 1, Integer.MAX_VALUE));
        Due.refusals(x, "behind it", 0, 6);
    }

    private static void aboveAndBelow() {
        Due.says("in least terms: above, below the line (above 0)");
        crossing("sp+7+0+0;sp+0+9+0;", 0, 1, 0, 1);
        crossing("sp-7+0+0;sp+0-9+0;", 0, 1, 0, 1);
        crossing("sp-2+0+3;sp+0-4+6;", -3, 2, -3, 2);
        crossing("sp-2+0-3;sp+0+4+6;", 3, 2, 3, 2);
        crossing("sp+9+0+99;sp+0+9-99;", 11, 1, -11, 1);
        crossing("sp+9+0+98;sp+0+9-97;", 98, 9, -97, 9);
        crossing("sp+6+0+9;sp+0+8+6;", 3, 2, 3, 4);
        // Below x and below y are told apart: each in its own least terms.
        crossing("sp+2+2+1;sp+2-2+1;", 1, 2, 0, 1);
        crossing("sp+9+8+1;sp+8-9+0;", 9, 145, 8, 145);
    }

    private static void farCrossings() {
        Due.says("CROSSING of two STREETS: the one point that is on both (at A, B 9 and C 99)");
        crossing("sp+9+8+99;sp+8+7-99;", -1485, 1, 1683, 1);
        crossing("sp+8+9+99;sp+7+8-99;", 1683, 1, -1485, 1);
        crossing("sp+8+9-99;sp+7+8+99;", -1683, 1, 1485, 1);
        crossing("sp+9+9+99;sp+9-9+99;", 11, 1, 0, 1);
        crossing("sp+9+9+99;sp+9-9+98;", 197, 18, 1, 18);
        crossing("sp-9-9+99;sp-9+9+98;", -197, 18, -1, 18);
        crossing("sp+9+9-99;sp+8+9+99;", -198, 1, 187, 1);
    }

    private static void crossing(String town, int... due) {
        CrossesAllOld x = Due.with(town);
        for (int what = 0; what < 4; what++) {
            Due.is(town + " crossing(0, 1, " + what + ")", due[what], x.crossing(0, 1, what));
            Due.is(town + " crossing(1, 0, " + what + ")", due[what], x.crossing(1, 0, what));
        }
    }

    private static void sideOfAPoint() {
        Due.says("SIDE 1, if A x and B y together are more than C, 0, if less; ON it, if they are C");
        for (int c = -99; c <= 99; c++) {
            CrossesAllOld x = Due.with("sp-9+9" + (c < 0 ? "-" : "+") + Math.abs(c) + ";p+1-1;p-5+6;p-5-5;");
            int[] sums = {-18, 99, 0};
            for (int p = 0; p < 3; p++) {
                Due.is("sum " + sums[p] + " by C " + c, sums[p] == c ? -9 : sums[p] > c ? 1 : 0, x.where(p));
            }
        }
        CrossesAllOld far = Due.with("sp+9+9+99;p+20+20;p-20-20;p+11+0;");
        Due.is("360", 1, far.where(0));
        Due.is("-360", 0, far.where(1));
        Due.is("99", -9, far.where(2));
    }

    private static void numbersOfQuarters() {
        Due.says("told as bits (of STREETS), its NUMBER");
        StringBuilder text = new StringBuilder("p+0+0;");
        for (int s = 0; s < 6; s++) {
            text.append(STAR[s], 0, 6).append("-9;");
            CrossesAllOld above = Due.with(text.toString());
            Due.is("above all of " + (s + 1), (1 << s + 1) - 1, above.where(0));
            Due.holds("and it is there", above.isOpen((1 << s + 1) - 1) >= 0);
            CrossesAllOld below = Due.with(text.toString().replace("-9;", "+9;"));
            Due.is("below all of " + (s + 1), 0, below.where(0));
        }
        CrossesAllOld x = Due.with(text.toString());
        for (int number : new int[] {-1, 64, 65, 127, 128, 63 + 256, Integer.MIN_VALUE, Integer.MIN_VALUE + 63, Integer.MAX_VALUE}) {
            Due.is("isOpen(" + number + ")", -1, x.isOpen(number));
            Due.is("corners(" + number + ")", -1, x.corners(number));
            Due.is("sides(" + number + ")", -1, x.sides(number));
        }
        Due.refusals(x, "behind them", 27);
    }

    private static void justIfThereIsSuchAPoint() {
        Due.says("there is one just if there is such a point");
        for (int streets = 1; streets <= 6; streets++) {
            CrossesAllOld star = Due.first(STAR, streets);
            CrossesAllOld apart = Due.first(APART, streets);
            int ofStar = 0;
            int ofApart = 0;
            for (int q = 0; q < 64; q++) {
                ofStar += star.isOpen(q) >= 0 ? 1 : 0;
                ofApart += apart.sides(q) >= 0 ? 1 : 0;
            }
            Due.is("numbers at one point of " + streets, 2 * streets, ofStar);
            Due.is("numbers of " + streets + " apart", 1 + streets * (streets + 1) / 2, ofApart);
        }
        // The first two meet at 3, 9; the third runs just beside it, or through it.
        CrossesAllOld small = Due.with("sp+9+8+99;sp+8+7+87;sp+9-7-35;");
        Due.is("quarters of three", 7, small.quarters());
        Due.is("open of three", 6, small.open());
        CrossesAllOld point = Due.with("sp+9+8+99;sp+8+7+87;sp+9-7-36;");
        Due.is("quarters of three at one point", 6, point.quarters());
    }

    // Left of x 0, below y 0, above x + y 4 there is no point: the number that lacks is 0, or 7 if all are turned.
    private static void noQuarterZero() {
        Due.says("there is one just if there is such a point (0 as any other)");
        CrossesAllOld x = Due.with("sp+1+0+0;sp+0+1+0;sp-1-1-4;");
        CrossesAllOld turned = Due.with("sp-1+0+0;sp+0-1+0;sp+1+1+4;");
        for (int q = 0; q < 8; q++) {
            Due.is("corners(" + q + ")", new int[] {-1, 1, 1, 2, 1, 2, 2, 3}[q], x.corners(q));
            Due.is("corners(" + q + ") of the turned ones", new int[] {3, 2, 2, 1, 2, 1, 1, -1}[q], turned.corners(q));
        }
        for (CrossesAllOld one : new CrossesAllOld[] {x, turned}) {
            Due.is("quarters", 7, one.quarters());
            Due.is("open", 6, one.open());
            Due.is("without a street", 4, one.taken(2));
            Due.is("with one corner", 3, one.with(1));
        }
        Due.is("round the triangle", -9, row(turned, 0, 1, 3, 2, 6, 4, 5));
        Due.is("no 7", 2, row(turned, 0, 1, 7));
        Due.is("no 0", 3, row(x, 7, 6, 2, 0));
        // Below x 0, below the slope and above y 0 there is no point, nor is there without the fourth.
        CrossesAllOld star = Due.with("sp+1+0+0;sp-1+1+0;sp+0-1+0;sp+1+1+0;");
        Due.is("isOpen(0)", -1, star.isOpen(0));
        Due.is("taken(3)", 6, star.taken(3));
        Due.is("quarters of four", 8, star.quarters());
    }

    private static int row(CrossesAllOld x, int... numbers) {
        for (int number : numbers) {
            x.row(number);
        }
        return x.judge();
    }

    private static void aBarePlain() {
        Due.says("one with no STREET is OPEN");
        for (CrossesAllOld x : new CrossesAllOld[] {new CrossesAllOld(), Due.with("p+0+0;p+20-20;")}) {
            int[] due = {1, 1, 1, 0, 0, 1, 1, 0};
            int[] got = {x.quarters(), x.open(), x.isOpen(0), x.corners(0), x.sides(0), x.with(0), x.whole(), x.with(1)};
            for (int i = 0; i < due.length; i++) {
                Due.is("question " + i + " of a bare plain", due[i], got[i]);
            }
            Due.is("no quarter 1", -1, x.corners(1));
        }
    }

    private static void oneStreet() {
        Due.says("one with just one STREET is OPEN");
        CrossesAllOld x = Due.with("sp+9-9-99;");
        int[] due = {2, 2, 1, 1, 0, 0, 1, 1, 2, 2};
        int[] got = {x.quarters(), x.open(), x.isOpen(0), x.isOpen(1), x.corners(0), x.corners(1), x.sides(0), x.sides(1), x.with(0), x.whole()};
        for (int i = 0; i < due.length; i++) {
            Due.is("question " + i + " of one street", due[i], got[i]);
        }
        Due.is("no quarter 2", -1, x.sides(2));
    }

    private static void upToSixApart() {
        Due.says("QUARTERS: how many; OPEN ones (0 to 6 STREETS, no three at one point)");
        for (int streets = 0; streets <= 6; streets++) {
            CrossesAllOld x = Due.first(APART, streets);
            Due.is("quarters of " + streets, 1 + streets * (streets + 1) / 2, x.quarters());
            Due.is("open of " + streets, streets == 0 ? 1 : 2 * streets, x.open());
            Due.is("points of " + streets, streets * (streets - 1) / 2, x.points(0));
        }
    }

    private static void upToSixAtOnePoint() {
        Due.says("QUARTERS: how many; OPEN ones (all STREETS at one point)");
        for (int streets = 2; streets <= 6; streets++) {
            CrossesAllOld x = Due.first(STAR, streets);
            Due.is("quarters of " + streets, 2 * streets, x.quarters());
            Due.is("open of " + streets, 2 * streets, x.open());
            Due.is("with one corner of " + streets, 2 * streets, x.with(1));
            Due.is("points of " + streets, 1, x.points(0));
        }
    }

    private static void cornersOfQuarters() {
        Due.says("CORNERS of a QUARTER: points of its edge where two or more STREETS meet");
        CrossesAllOld triangle = Due.with("sp+1+0+0;sp+0+1+0;sp+1+1+4;");
        int[] due = {1, 2, 2, 3, -1, 1, 1, 2};
        for (int q = 0; q < 8; q++) {
            Due.is("corners(" + q + ") of a triangle", due[q], triangle.corners(q));
        }
        // A square at 0, 0 is one corner of each quarter at it, whichever two of its streets they lie at.
        CrossesAllOld x = Due.with("sp+1+0+0;sp+0+1+0;sp+1-1+0;sp+1+1+4;");
        Due.is("the triangle at x 0", 3, x.corners(1 + 2));
        Due.is("the triangle at y 0", 3, x.corners(1 + 2 + 4));
        Due.is("the quarter left of them", 2, x.corners(2));
        Due.is("the quarter at the square alone", 1, x.corners(0));
        CrossesAllOld six = Due.with(HEXAGON);
        Due.is("six corners", 6, six.corners(1 + 4 + 16));
        Due.is("six sides", 6, six.sides(1 + 4 + 16));
        Due.is("it is closed", 0, six.isOpen(1 + 4 + 16));
    }

    private static void withSoManyCorners() {
        Due.says("with so many CORNERS (0 .. 12)");
        CrossesAllOld x = Due.with(HEXAGON);
        int all = 0;
        for (int corners = 0; corners <= 12; corners++) {
            int counted = 0;
            for (int q = 0; q < 64; q++) {
                counted += x.corners(q) == corners ? 1 : 0;
            }
            Due.is("with(" + corners + ")", counted, x.with(corners));
            all += counted;
        }
        Due.is("all of them", 22, all);
        Due.is("with(6)", 1, x.with(6));
        Due.is("with(7)", 0, x.with(7));
        Due.is("with(12)", 0, x.with(12));
        Due.is("with(-1)", -4, x.with(-1));
        Due.is("with(13)", -6, x.with(13));
        Due.is("with(least)", -4, x.with(Integer.MIN_VALUE));
        Due.is("with(most)", -6, x.with(Integer.MAX_VALUE));
    }

    private static void atAllStreets() {
        Due.says("WHOLE: how many QUARTERS lie at all STREETS");
        int[] apart = {1, 2, 4, 4};
        int[] star = {1, 2, 4, 0, 0, 0, 0};
        for (int streets = 0; streets < apart.length; streets++) {
            Due.is("whole of " + streets + " apart", apart[streets], Due.first(APART, streets).whole());
        }
        for (int streets = 0; streets < star.length; streets++) {
            Due.is("whole of " + streets + " at one point", star[streets], Due.first(STAR, streets).whole());
        }
        Due.is("whole of a hexagon", 1, Due.with(HEXAGON).whole());
    }

    private static void openOrClosed() {
        Due.says("OPEN: without end");
        CrossesAllOld x = Due.with("sp+1+0+0;sp+0+1+0;sp+1+1+4;");
        for (int q = 0; q < 8; q++) {
            Due.is("isOpen(" + q + ") of a triangle", q == 3 ? 0 : q == 4 ? -1 : 1, x.isOpen(q));
        }
        // The tip of a thin wedge, far off, cut off by a third: it is closed all the same.
        CrossesAllOld wedge = Due.with("sp+9+8+99;sp+8+7-99;sp+0+1-20;");
        Due.is("open of a far triangle", 6, wedge.open());
        Due.is("closed of a far triangle", 1, wedge.quarters() - wedge.open());
    }

    private static void pointsAndSquares() {
        Due.says("SQUARES: points where three or more STREETS meet");
        int[] squares = {0, 0, 0, 1, 1, 1, 1};
        for (int streets = 0; streets <= 6; streets++) {
            CrossesAllOld star = Due.first(STAR, streets);
            Due.is("points at one point of " + streets, streets < 2 ? 0 : 1, star.points(0));
            Due.is("squares at one point of " + streets, squares[streets], star.points(1));
            Due.is("squares of " + streets + " apart", 0, Due.first(APART, streets).points(1));
        }
        // Each two of 0, 0; 3, 0; 0, 2; 1, 1 have a street: three meet at each of them, two at three points more.
        CrossesAllOld four = Due.with("sp+0+1+0;sp+1+0+0;sp+1-1+0;sp+2+3+6;sp+1+2+3;sp+1+1+2;");
        Due.is("points of four squares", 7, four.points(0));
        Due.is("four squares", 4, four.points(1));
        Due.is("at most at one of them", 3, four.points(2));
        Due.is("quarters between them", 18, four.quarters());
        CrossesAllOld x = Due.with("sp+1+0+0;");
        Due.is("points(-1)", -2, x.points(-1));
        Due.is("points(3)", -2, x.points(3));
        Due.is("points(least)", -2, x.points(Integer.MIN_VALUE));
        Due.is("points(most)", -2, x.points(Integer.MAX_VALUE));
        Due.refusals(x, "behind them", 0, 4);
    }

    private static void mostAtOnePoint() {
        Due.says("MEET: the most STREETS that meet at one point (0 with less than two STREETS)");
        for (int streets = 0; streets <= 6; streets++) {
            Due.is("of " + streets + " at one point", streets < 2 ? 0 : streets, Due.first(STAR, streets).points(2));
            Due.is("of " + streets + " apart", streets < 2 ? 0 : 2, Due.first(APART, streets).points(2));
        }
    }

    private static void lampsWithoutPoints() {
        Due.says("from a STREET at each point where it meets others");
        for (int streets = 0; streets < 2; streets++) {
            Due.is("lamps() of " + streets, 0, Due.first(APART, streets).lamps());
        }
        for (char kind : "pldgtn".toCharArray()) {
            Due.is("one street of kind " + kind, 0, Due.with("s" + kind + "+1+0+0;").street(0, 4));
        }
    }

    private static void lampsOnASquare() {
        Due.says("5 more on a SQUARE");
        for (int streets = 2; streets <= 6; streets++) {
            CrossesAllOld grand = ofKind('g', STAR, streets);
            for (int s = 0; s < streets; s++) {
                Due.is("a grand one at the point of " + streets, streets < 3 ? 2 : 7, grand.street(s, 4));
            }
            Due.is("all of " + streets, streets * (streets < 3 ? 2 : 7), grand.lamps());
        }
    }

    private static void lampsByNumber() {
        Due.says("a PLAIN's and its number (0 .. 5)");
        CrossesAllOld x = ofKind('t', STAR, 6);
        for (int s = 0; s < 6; s++) {
            Due.is("toll " + s, s + 1, x.street(s, 4));
        }
        Due.is("all of them", 21, x.lamps());
        CrossesAllOld apart = ofKind('t', APART, 6);
        for (int s = 0; s < 6; s++) {
            Due.is("toll " + s + " at five points", 5 * (s + 1), apart.street(s, 4));
        }
        Due.is("all of them", 105, apart.lamps());
    }

    private static void lampsOfTheLatest() {
        Due.says("7, if it is the latest STREET");
        for (int streets = 1; streets <= 6; streets++) {
            CrossesAllOld x = ofKind('n', APART, streets);
            for (int s = 0; s < streets; s++) {
                Due.is("new one " + s + " of " + streets, s == streets - 1 ? 7 * (streets - 1) : 0, x.street(s, 4));
            }
            Due.is("all of " + streets, 7 * (streets - 1), x.lamps());
        }
    }

    private static CrossesAllOld ofKind(char kind, String[] streets, int many) {
        StringBuilder text = new StringBuilder();
        for (int s = 0; s < many; s++) {
            text.append('s').append(kind).append(streets[s].substring(2));
        }
        return Due.with(text.toString());
    }
}
