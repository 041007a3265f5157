/** Promises 16 to 24: each sentence that names an edge of plots, told lines and streets taken up. */
public final class BoundsLinesTest {
    private static final String[] APART = {"sp+1+0+0;", "sp+0+1+0;", "sp+1+1+1;", "sp+1-1+3;", "sp+2+1+7;", "sp+1+2-9;"};
    private static final String[] STAR = {"sp+1+0+0;", "sp+0+1+0;", "sp+1+1+0;", "sp+1-1+0;", "sp+1+2+0;", "sp+2+1+0;"};
    private static final int FAR = 1000000000;
    private static final int LEAST = Integer.MIN_VALUE;
    private static final int MOST = Integer.MAX_VALUE;

    public static void main(String[] args) {
        whereOnAStreet();
        whereNobody();
        togetherOnAStreet();
        togetherOfEight();
        stepsOnAStreet();
        stepsNoneToSix();
        stepsEither();
        nextAtItsEnds();
        nextOutside();
        nextWithoutRoom();
        nextThroughPoints();
        nextOfAPlot();
        nextOnAStreet();
        nextOfADirection();
        throughAtItsEnds();
        throughOutside();
        throughAnyDirection();
        spareAtItsEnds();
        spareByTheFirst();
        spareByTheLast();
        spareNone();
        spareOfPlotsTogether();
        spareNotThroughAPlot();
        mostAtItsEnds();
        mostOfC();
        mostOfFractions();
        mostOfPoints();
        fearOfAllLines();
        fearAtCNine();
        fearOnAStreet();
        fearNobody();
        takenWithoutStreets();
        takenOfSix();
        takenTheFirst();
        takenNobody();
        Due.end("BoundsLinesTest");
    }

    private static void whereOnAStreet() {
        Due.says("WHERE a PLOT lies: the NUMBER; -9 on a STREET");
        CrossesAllOld x = Due.with("sp+1+0+0;p-1+0;p+0+0;p+1+0;p+0-20;p+0+20;");
        int[] due = {0, -9, 1, -9, -9};
        for (int p = 0; p < due.length; p++) {
            Due.is("where(" + p + ")", due[p], x.where(p));
        }
        Due.is("on one street of six", -9, Due.with(String.join("", APART) + "p+0+5;").where(0));
        Due.is("on the last of six", -9, Due.with(String.join("", APART) + "p+1-5;").where(0));
        Due.is("on all six", -9, Due.with(String.join("", STAR) + "p+0+0;").where(0));
        Due.refusals(x, "behind -9");
    }

    private static void whereNobody() {
        Due.says("where: -1");
        for (int plots : new int[] {0, 1, 8}) {
            CrossesAllOld x = Due.with("sp+1+0+0;" + "p+1+1;".repeat(plots));
            for (int bad : new int[] {LEAST, -1, plots, 8, MOST}) {
                Due.is("where(" + bad + ") of " + plots, -1, x.where(bad));
                Due.is("together(" + bad + ") of " + plots, -1, x.together(bad));
            }
            Due.refusals(x, "of " + plots, 10);
        }
    }

    private static void togetherOnAStreet() {
        Due.says("TOGETHER: PLOTS (bits) that lie in its QUARTER (with itself; on a STREET: none)");
        CrossesAllOld x = Due.with("sp+1+0+0;p+0+1;p+0+2;p+1+1;p-1+1;");
        int[] due = {0, 0, 4, 8};
        for (int p = 0; p < due.length; p++) {
            Due.is("together(" + p + ")", due[p], x.together(p));
        }
        Due.refusals(x, "behind it");
    }

    private static void togetherOfEight() {
        Due.says("TOGETHER: PLOTS (bits) 0 .. 7");
        CrossesAllOld x = Due.with("p-20-20;p+20-20;p+20+20;p-20+20;p+0+0;p+0+0;p+1+0;p+0+1;");
        for (int p = 0; p < 8; p++) {
            Due.is("all eight of " + p, 255, x.together(p));
        }
        Due.town(x, "sp+1+0-1;");
        Due.is("left of it", 1 + 8, x.together(3));
        Due.is("right of it", 255 - 9, x.together(7));
    }

    private static void stepsOnAStreet() {
        Due.says("STEPS: -9 either is on one");
        CrossesAllOld x = Due.with("sp+1+0+0;p+0+1;p+0+1;p+1+1;");
        Due.is("the one", -9, x.steps(0, 2));
        Due.is("the other", -9, x.steps(2, 0));
        Due.is("both", -9, x.steps(0, 1));
        Due.is("itself", -9, x.steps(1, 1));
        Due.is("neither", 0, x.steps(2, 2));
        Due.refusals(x, "behind -9");
    }

    private static void stepsNoneToSix() {
        Due.says("STEPS: the fewest STREETS to cross (through no POINT)");
        for (int streets = 0; streets <= 6; streets++) {
            CrossesAllOld x = Due.with(String.join("", java.util.Arrays.copyOf(STAR, streets)) + "p+20+19;p-20-19;p+20+19;");
            Due.is("across the point of " + streets, streets, x.steps(0, 1));
            Due.is("and back", streets, x.steps(1, 0));
            Due.is("to one's own quarter", 0, x.steps(0, 2));
        }
    }

    private static void stepsEither() {
        Due.says("steps: -1 either");
        CrossesAllOld x = Due.with("sp+1+0+0;p+1+1;p+0+1;");
        for (int bad : new int[] {LEAST, -1, 2, 8, MOST}) {
            Due.is("steps(" + bad + ", 0)", -1, x.steps(bad, 0));
            Due.is("steps(0, " + bad + ")", -1, x.steps(0, bad));
            Due.is("steps(" + bad + ", 1), 1 on a street", -1, x.steps(bad, 1));
            Due.is("steps(" + bad + ", " + bad + ")", -1, x.steps(bad, bad));
        }
        Due.refusals(x, "behind it", 20);
    }

    private static void nextAtItsEnds() {
        Due.says("a told line (as a STREET: A, B -9 .. 9; C -99 .. 99)");
        CrossesAllOld x = Due.with("p+0+0;");
        int[][] lines = {{-9, 0, 0}, {9, 0, 0}, {0, -9, 0}, {0, 9, 0}, {1, 0, -99}, {1, 0, 99}, {9, 9, 99}, {-9, -9, -99}, {9, -9, -99}, {-9, 9, 99}};
        for (int[] l : lines) {
            Due.is("next at an end", 1, x.next(l[0], l[1], l[2], -1));
            Due.is("next at an end, of a plot", 1, x.next(l[0], l[1], l[2], 0));
        }
        Due.refusals(x, "behind them");
    }

    private static void nextOutside() {
        Due.says("next: -4; -6 (A, B 9; C 99)");
        CrossesAllOld x = Due.with("p+0+0;");
        int[][] below = {{-10, 0, 0}, {0, -10, 0}, {1, 0, -100}, {LEAST, 1, 1}, {1, LEAST, 1}, {1, 1, LEAST}};
        for (int[] l : below) {
            Due.is("below", -4, x.next(l[0], l[1], l[2], -1));
            Due.is("below, of a plot", -4, x.next(l[0], l[1], l[2], 0));
        }
        int[][] above = {{10, 0, 0}, {0, 10, 0}, {1, 0, 100}, {MOST, 1, 1}, {1, MOST, 1}, {1, 1, MOST}};
        for (int[] l : above) {
            Due.is("above", -6, x.next(l[0], l[1], l[2], -1));
            Due.is("above, of a plot", -6, x.next(l[0], l[1], l[2], 0));
        }
        Due.refusals(x, "behind them", 0, 0, 0, 12, 0, 12);
    }

    private static void nextWithoutRoom() {
        Due.says("NEXT: how many QUARTERS it would cut");
        for (int streets = 0; streets <= 6; streets++) {
            String told = String.join("", java.util.Arrays.copyOf(APART, streets));
            Due.is("behind " + streets, streets + 1, Due.first(APART, streets).next(9, -7, 50, -1));
            if (streets < 6) {
                CrossesAllOld x = Due.with(told.isEmpty() ? "sp+9-7+50;" : told + "sp+9-7+50;");
                Due.is("as many quarters come", streets + 1, x.quarters() - Due.first(APART, streets).quarters());
            }
        }
    }

    private static void nextThroughPoints() {
        Due.says("NEXT: a line through POINTS cuts fewer");
        for (int streets = 2; streets <= 6; streets++) {
            Due.is("through the point of " + streets, 2, Due.first(STAR, streets).next(3, -1, 0, -1));
            Due.is("just beside it", streets + 1, Due.first(STAR, streets).next(3, -1, 1, -1));
            Due.is("on its other side", streets + 1, Due.first(STAR, streets).next(3, -1, -1, -1));
        }
    }

    private static void nextOfAPlot() {
        Due.says("whether it would cut that in which a PLOT lies (1, 0)");
        // Right of x 0 and above y 0; the tip at 0, 0 is not cut by a line that goes through it alone.
        CrossesAllOld x = Due.with("sp+1+0+0;sp+0+1+0;p+5+5;");
        Due.is("through the tip", 0, x.next(1, 1, 0, 0));
        Due.is("just inside", 1, x.next(1, 1, 1, 0));
        Due.is("just outside", 0, x.next(1, 1, -1, 0));
        Due.is("through the plot", 1, x.next(1, 1, 10, 0));
        Due.is("far off in it", 1, x.next(1, 1, 99, 0));
        Due.is("through the tip and into it", 1, x.next(1, -1, 0, 0));
        Due.is("all of them", 3, x.next(1, 1, 1, -1));
    }

    private static void nextOnAStreet() {
        Due.says("NEXT: -9 the PLOT is on a STREET");
        CrossesAllOld x = Due.with("sp+1+0+0;p+0+5;p+1+5;");
        Due.is("next(0, 1, 5, 0), through it", -9, x.next(0, 1, 5, 0));
        Due.is("next(0, 1, 6, 0)", -9, x.next(0, 1, 6, 0));
        Due.is("next(0, 1, 6, 1)", 1, x.next(0, 1, 6, 1));
        Due.is("next(1, 0, 6, 0), a direction that there is", -3, x.next(1, 0, 6, 0));
        Due.refusals(x, "behind them", 0, 0, 1);
    }

    private static void nextOfADirection() {
        Due.says("-3 (a direction that there is, 0 and 0)");
        CrossesAllOld x = Due.with("sp+2+4+7;sp+0+3+7;");
        for (int[] line : new int[][] {{0, 0}, {1, 2}, {-1, -2}, {4, 8}, {-4, -8}, {0, 1}, {0, -9}, {0, 9}}) {
            Due.is("next(" + line[0] + ", " + line[1] + ", 9, -1)", -3, x.next(line[0], line[1], 9, -1));
            Due.is("spare(" + line[0] + ", " + line[1] + ")", FAR + 3, x.spare(line[0], line[1]));
            Due.is("most(" + line[0] + ", " + line[1] + ")", -3, x.most(line[0], line[1]));
        }
        for (int[] line : new int[][] {{1, -2}, {-1, 2}, {2, 1}, {1, 0}, {5, 9}, {4, 9}, {1, 9}}) {
            Due.is("next(" + line[0] + ", " + line[1] + ", 9, -1)", 3, x.next(line[0], line[1], 9, -1));
            Due.is("spare(" + line[0] + ", " + line[1] + ")", -99, x.spare(line[0], line[1]));
        }
        Due.refusals(x, "behind them", 0, 0, 24);
    }

    private static void throughAtItsEnds() {
        Due.says("THROUGH a PLOT: the C by which a line of told A, B goes through it");
        CrossesAllOld x = Due.with("p+20+20;p-20-20;p+20-20;p+0+0;");
        Due.is("360", 360, x.through(9, 9, 0));
        Due.is("-360", -360, x.through(9, 9, 1));
        Due.is("-360 the other way", -360, x.through(-9, -9, 0));
        Due.is("360 by unlike signs", 360, x.through(9, -9, 2));
        Due.is("0", 0, x.through(-9, 9, 3));
        Due.is("A alone", -180, x.through(-9, 0, 0));
        Due.is("B alone", 180, x.through(0, -9, 1));
        Due.is("-1, no refusal", -1, Due.with("p+1-2;").through(1, 1, 0));
        Due.refusals(x, "behind them");
    }

    private static void throughOutside() {
        Due.says("through: -1; -4; -6 9; told as 1000000000 less them");
        CrossesAllOld x = Due.with("p+1+1;");
        int[][] below = {{-10, 1}, {1, -10}, {LEAST, 1}, {1, LEAST}};
        for (int[] l : below) {
            Due.is("below", FAR + 4, x.through(l[0], l[1], 0));
        }
        int[][] above = {{10, 1}, {1, 10}, {MOST, 1}, {1, MOST}};
        for (int[] l : above) {
            Due.is("above", FAR + 6, x.through(l[0], l[1], 0));
        }
        for (int bad : new int[] {LEAST, -1, 1, 8, MOST}) {
            Due.is("through(1, 1, " + bad + ")", FAR + 1, x.through(1, 1, bad));
        }
        Due.refusals(x, "behind them", 5, 0, 0, 4, 0, 4);
    }

    private static void throughAnyDirection() {
        Due.says("through: -3 (0 and 0 alone)");
        CrossesAllOld x = Due.with("sp+1+2+0;sp+0+1+0;p+3+4;");
        Due.is("0 and 0", FAR + 3, x.through(0, 0, 0));
        Due.is("a direction that there is", 11, x.through(1, 2, 0));
        Due.is("a multiple of it", -33, x.through(-3, -6, 0));
        Due.is("another that there is", 4, x.through(0, 1, 0));
        Due.is("a plot on a street", 0, Due.with("sp+1+2+0;p+2-1;").through(1, 2, 0));
        Due.refusals(x, "behind them", 0, 0, 1);
    }

    private static void spareAtItsEnds() {
        Due.says("spare: -4; -6 9; most: -4; -6 9");
        CrossesAllOld x = new CrossesAllOld();
        for (int[] l : new int[][] {{-9, 0}, {9, 0}, {0, -9}, {0, 9}, {9, 9}, {-9, -9}}) {
            Due.is("spare at an end", -99, x.spare(l[0], l[1]));
            Due.is("most at an end", 0, x.most(l[0], l[1]));
        }
        for (int[] l : new int[][] {{-10, 0}, {0, -10}, {LEAST, 0}, {1, LEAST}}) {
            Due.is("spare below", FAR + 4, x.spare(l[0], l[1]));
            Due.is("most below", -4, x.most(l[0], l[1]));
        }
        for (int[] l : new int[][] {{10, 0}, {0, 10}, {MOST, 0}, {1, MOST}}) {
            Due.is("spare above", FAR + 6, x.spare(l[0], l[1]));
            Due.is("most above", -6, x.most(l[0], l[1]));
        }
        Due.refusals(x, "behind them", 0, 0, 0, 8, 0, 8);
    }

    private static void spareByTheFirst() {
        Due.says("SPARE: of all C (-99 .. 99, by -99 first) the first");
        Due.is("no plots", -99, Due.first(APART, 6).spare(3, 1));
        // Plots on a street lie in no quarter; 9 x is -99 at the first, -90 at the second.
        Due.is("-99 goes through a plot", -98, Due.with("sp+0+1+0;p-11+0;").spare(9, 0));
        Due.is("-99 goes through none", -99, Due.with("sp+0+1+0;p-10+0;").spare(9, 0));
        Due.is("turned", -98, Due.with("sp+0+1+0;p+11+0;").spare(-9, 0));
    }

    private static void spareByTheLast() {
        Due.says("SPARE: of all C (-99 .. 99) the last");
        // Below x + y 99 and above y 1, 0, -1: all x below the tip's are in the plot's quarter; the tip's is not.
        Due.is("the tip at 98", 98, Due.with("sp+1+1+99;sp+0+1+1;p+0+2;").spare(1, 0));
        Due.is("the tip at 99", 99, Due.with("sp+1+1+99;sp+0+1+0;p+0+1;").spare(1, 0));
        Due.is("the tip at 100", -999, Due.with("sp+1+1+99;sp+0+1-1;p+0+0;").spare(1, 0));
        Due.is("a plot on a street at 99", -999, Due.with("sp+9+1+99;sp+9-1+99;p+0+0;p+11+0;").spare(9, 0));
    }

    private static void spareNone() {
        Due.says("SPARE: -999 none");
        Due.is("a plot on a bare plain", -999, Due.with("p+0+0;").spare(1, 0));
        Due.is("a plot in a half plain", -999, Due.with("sp+1+0+0;p+1+0;").spare(0, 1));
        CrossesAllOld x = Due.with("sp+1+0+0;sp+0+1+0;p+1-1;p-1+1;");
        Due.is("the other two quarters meet at a tip", 0, Due.with("sp+1+0+0;sp+0+1+0;p+1+1;p-1-1;").spare(1, 1));
        Due.is("a quarter that all cut", -999, x.spare(1, 1));
        Due.refusals(x, "behind -999");
    }

    private static void spareOfPlotsTogether() {
        Due.says("SPARE: cuts no QUARTER in which a PLOT lies");
        for (int plots = 1; plots <= 8; plots++) {
            String many = "p+5+5;".repeat(plots);
            Due.is(plots + " on a bare plain", -999, Due.with(many).spare(1, 0));
            Due.is(plots + " in a quarter", -99, Due.with("sp+1+0+0;sp+0+1+0;" + many).spare(1, 1));
            // The first line that spares them goes through the tip of their quarter.
            Due.is(plots + " in a quarter, turned", 0, Due.with("sp+1+0+0;sp+0+1+0;" + many).spare(-1, -1));
        }
        Due.is("two and two in two quarters", 0, Due.with("sp+1+0+0;sp+0+1+0;p+1+1;p+2+1;p-1-1;p-1-2;").spare(1, 1));
    }

    private static void spareNotThroughAPlot() {
        Due.says("SPARE: cuts no QUARTER in which a PLOT lies, nor goes through a PLOT");
        // At C 0 the line goes through the tips of both quarters, and through a plot that is on both streets.
        Due.is("a plot on the tips", -999, Due.with("sp+1+0+0;sp+0+1+0;p+1+1;p-1-1;p+0+0;").spare(1, 1));
        Due.is("a plot on a street beside", 0, Due.with("sp+1+0+0;sp+0+1+0;p+1+1;p-1-1;p+0+1;").spare(1, 1));
        // At 5 x the plots are on -95, -100 (which is not asked) and 95.
        Due.is("plots on a street alone", -99, Due.with("sp+0+1+0;p-19+0;p-20+0;p+19+0;").spare(5, 0));
        // The line goes through 0, 11, in the quarter 55; the plot is on a street, and in none.
        String six = "sp+1+0-9;sp+0+1-9;sp+1+1-9;sp+1-1-9;sp+1+2-9;sp+2+1-9;";
        Due.is("a plot on a street of six", -99, Due.with(six + "p-9+0;").spare(1, -9));
        Due.is("and one in the quarter 55", 55, Due.with(six + "p-9+0;p+0+11;").where(1));
        Due.holds("which is cut", Due.with(six + "p-9+0;p+0+11;").spare(1, -9) > -99);
        // On x + y -18, 5 x + 6 y is y less 90.
        Due.is("plots at -99, -98 and -97", -96, Due.with("sp+1+1-18;p-9-9;p-10-8;p-11-7;").spare(5, 6));
    }

    private static void mostAtItsEnds() {
        Due.says("MOST: through how many POINTS a line of told A, B can go at most");
        Due.is("no street", 0, new CrossesAllOld().most(1, 0));
        Due.is("one street", 0, Due.first(APART, 1).most(3, 1));
        Due.is("two streets", 1, Due.first(APART, 2).most(3, 1));
        for (int streets = 2; streets <= 6; streets++) {
            Due.is("a square of " + streets + " is one point", 1, Due.first(STAR, streets).most(3, 1));
        }
    }

    private static void mostOfC() {
        Due.says("MOST: C likewise (-99 .. 99)");
        // x + y 99 meets y 1, 0 and -1 at x 98, 99 and 100.
        Due.is("98", 1, Due.with("sp+1+1+99;sp+0+1+1;").most(1, 0));
        Due.is("99", 1, Due.with("sp+1+1+99;sp+0+1+0;").most(1, 0));
        Due.is("100", 0, Due.with("sp+1+1+99;sp+0+1-1;").most(1, 0));
        Due.is("-99", 1, Due.with("sp+1+1-99;sp+0+1+0;").most(1, 0));
        Due.is("-100", 0, Due.with("sp+1+1-99;sp+0+1+1;").most(1, 0));
        Due.is("-100 by -1 is 100", 0, Due.with("sp+1+1-99;sp+0+1+1;").most(-1, 0));
    }

    private static void mostOfFractions() {
        Due.says("MOST: C is a whole number");
        CrossesAllOld x = Due.with("sp+2+0+1;sp+0+3+1;");
        Due.is("1/2, 1/3 by x + y", 0, x.most(1, 1));
        Due.is("by 2 x + 3 y", 1, x.most(2, 3));
        Due.is("by 4 x + 9 y", 1, x.most(4, 9));
        Due.is("by 4 x + 8 y", 0, x.most(4, 8));
    }

    private static void mostOfPoints() {
        Due.says("MOST: POINTS, one of two STREETS or more");
        // Pairs that are their own images in x - y 0 meet at 0, 0; 4, 4; 5, 5.
        CrossesAllOld x = Due.with("sp+1+2+0;sp+2+1+0;sp+1+3+16;sp+3+1+16;sp+1+4+25;sp+4+1+25;");
        Due.is("three on one line", 3, x.most(1, -1));
        Due.is("by a multiple", 3, x.most(-9, 9));
        Due.is("another direction", 2, x.most(1, 1));
    }

    private static void fearOfAllLines() {
        Due.says("of all lines with A 0 .. 2, B -2 .. 2 (not both 0) and C -9 .. 9 of a direction that there is not");
        // A and B of the directions: 1, 0 and 2, 0; four of 0, 1; two each of 1, 1 and 1, -1; then one each.
        int[] left = {14, 12, 8, 6, 4, 3, 2};
        CrossesAllOld x = Due.with("p+20+19;");
        Due.is("lines on a bare plain", 14 * 19, x.fear(0, 1));
        for (int s = 0; s < 6; s++) {
            Due.town(x, STAR[s]);
            Due.is("lines with " + (s + 1), left[s + 1] * 19, x.fear(0, 1));
        }
        Due.is("a direction of none of them", 14 * 19, Due.with("p+1+1;sp+3+1+0;").fear(0, 1));
        Due.is("a multiple of one", 12 * 19, Due.with("p+1+1;sp-9+9+0;").fear(0, 1));
        Due.is("of a plot on a street", 13 * 19, Due.with("p+0+0;sp+4-2+0;").fear(0, 1));
    }

    private static void fearAtCNine() {
        Due.says("FEAR: how many cut the QUARTER in which it lies (C -9 .. 9)");
        // Right of a tip between 3 x + y and 3 x - y: x 9 alone cuts it at 8 1/3, 8 1/2; at 9 none does; 2 x never.
        Due.is("the tip at 8 1/3", 12 * 19 + 1, Due.with("sp+3+1+25;sp+3-1+25;p+20+0;").fear(0, 0));
        Due.is("the tip at 8", 12 * 19 + 1, Due.with("sp+3+1+24;sp+3-1+24;p+20+0;").fear(0, 0));
        Due.is("the tip at 7 2/3", 12 * 19 + 2, Due.with("sp+3+1+23;sp+3-1+23;p+20+0;").fear(0, 0));
        Due.is("the tip at 9", 12 * 19, Due.with("sp+3+1+27;sp+3-1+27;p+20+0;").fear(0, 0));
        // Left of the tip: x -9 alone.
        Due.is("the tip at -8 1/3", 12 * 19 + 1, Due.with("sp+3+1-25;sp+3-1-25;p-20+0;").fear(0, 0));
        Due.is("the tip at -9", 12 * 19, Due.with("sp+3+1-27;sp+3-1-27;p-20+0;").fear(0, 0));
        // From the other hand of it all but those beyond.
        Due.is("left of 8 1/3", 13 * 19 + 18, Due.with("sp+3+1+25;sp+3-1+25;p+0+0;").fear(0, 0));
    }

    private static void fearOnAStreet() {
        Due.says("FEAR: -9 the PLOT is on a STREET");
        CrossesAllOld x = Due.with("sp+3+1+0;p+0+0;p+0+1;");
        Due.is("on it", -9, x.fear(0, 0));
        Due.is("how many lines there are, all the same", 266, x.fear(0, 1));
        Due.is("beside it", 266, x.fear(1, 0));
        Due.refusals(x, "behind -9");
    }

    private static void fearNobody() {
        Due.says("fear: -1; -2");
        CrossesAllOld x = Due.with("sp+1+0+0;p+0+0;p+1+1;");
        for (int bad : new int[] {LEAST, -1, 2, 8, MOST}) {
            Due.is("fear(" + bad + ", 0)", -1, x.fear(bad, 0));
            Due.is("fear(" + bad + ", 2)", -1, x.fear(bad, 2));
        }
        for (int bad : new int[] {LEAST, -1, 2, MOST}) {
            Due.is("fear(0, " + bad + "), 0 on a street", -2, x.fear(0, bad));
            Due.is("fear(1, " + bad + ")", -2, x.fear(1, bad));
        }
        Due.refusals(x, "behind them", 10, 8);
    }

    private static void takenWithoutStreets() {
        Due.says("taken: street -1: the STREET (-9 there are none)");
        CrossesAllOld x = Due.with("p+1+1;");
        Due.is("taken(-1) of none", -9, x.taken(-1));
        Due.is("taken(0) of none", -1, x.taken(0));
        Due.refusals(x, "behind them", 1);
        Due.is("taken(-1) of one", 0, Due.first(APART, 1).taken(-1));
        Due.is("taken(0) of one", 1, Due.first(APART, 1).taken(0));
    }

    private static void takenOfSix() {
        Due.says("TAKEN: how many QUARTERS there were, if a STREET were taken up");
        for (int streets = 1; streets <= 6; streets++) {
            CrossesAllOld apart = Due.first(APART, streets);
            CrossesAllOld star = Due.first(STAR, streets);
            for (int s = 0; s < streets; s++) {
                Due.is("taken(" + s + ") of " + streets + " apart", 1 + streets * (streets - 1) / 2, apart.taken(s));
                Due.is("taken(" + s + ") of " + streets + " at one point", streets == 1 ? 1 : 2 * (streets - 1), star.taken(s));
            }
            Due.is("all stay", 1 + streets * (streets + 1) / 2, apart.quarters());
        }
    }

    private static void takenTheFirst() {
        Due.says("the STREET of which most are lost then, of several the first");
        for (int streets = 1; streets <= 6; streets++) {
            Due.is("of " + streets + " alike", 0, Due.first(APART, streets).taken(-1));
            Due.is("of " + streets + " at one point", 0, Due.first(STAR, streets).taken(-1));
        }
        // Three at one point, and others apart from it: 3 and 4 are alike, more than 0, 1, 2.
        CrossesAllOld x = Due.with("sp+1+0+0;sp+0+1+0;sp+1-1+0;sp+1+1+4;sp+1+2+9;");
        Due.is("the first of the last two", 3, x.taken(-1));
        Due.is("the last alone", 3, Due.with("sp+1+0+0;sp+0+1+0;sp+1-1+0;sp+1+1+4;").taken(-1));
        Due.is("the last of six", 5, Due.with("sp+1+0+0;sp+0+1+0;sp+1-1+0;sp+1+2+0;sp+2+1+0;sp+1+1+4;").taken(-1));
    }

    private static void takenNobody() {
        Due.says("taken: -1");
        for (int streets = 0; streets <= 6; streets++) {
            CrossesAllOld x = Due.first(APART, streets);
            for (int bad : new int[] {LEAST, -2, streets, 7, MOST}) {
                Due.is("taken(" + bad + ") of " + streets, -1, x.taken(bad));
            }
            Due.refusals(x, "of " + streets, 5);
        }
    }
}
