/**
 * Each REFUSAL that promises 2 to 29 name: the number that the call tells, which one comes first where two fit, and that it
 * changes nothing but how many there were. Each refused call is made on an object of its own, twice; then all is asked.
 */
public final class RefusalsTest {
    private static final int FAR = 1000000000;
    private static final int LEAST = Integer.MIN_VALUE;
    private static final int MOST = Integer.MAX_VALUE;
    private static final String SIX = "sp+1+0-9;sl+0+1-9;sd+1+1-9;sg+1-1-9;st+1+2-9;sn+2+1-9;";
    private static final String EIGHT = "p+1+1;p+2+2;p+3+3;p+4+4;p-1-1;p-2-2;p-9-3;p-4-4;";
    private static final String LETTERS_96 =
        "sp+1+0+00;sp+0+1+00;sp+1+1+00;sp+1+2+00;sp+1+3+00;sp+1+4+00;p+1+1;p+2+2;p+3+3;p+4+4;p-1-1;p-2-2;";

    private interface Call {
        long of(CrossesAllOld x);
    }

    private enum State { NEW, HALF, LETTERS, FULL }

    public static void main(String[] args) {
        for (State state : State.values()) {
            letters(state);
            streets(state);
            crossings(state);
            plots(state);
            quarters(state);
            steps(state);
            lines(state);
            linesThroughPlots(state);
            fearAndTaken(state);
            rowAndSeeds(state);
        }
        firstOfTwo();
        firstOfTwoLines();
        aheadOfAnswers();
        refused(State.NEW, "on()", -3, x -> x.on());
        refused(State.LETTERS, "on()", -3, x -> x.on());
        Due.end("RefusalsTest");
    }

    private static CrossesAllOld make(State state) {
        CrossesAllOld x = new CrossesAllOld();
        switch (state) {
            case HALF:
                Due.town(x, "sg+1+0+0;p+0+5;");
                x.image();
                Due.town(x, "st+0+1+0;sn+1+1+4;p+1+1;p-3+2;");
                row(x, 3, 7, 6);
                Due.tell(x, "p+9-1");
                break;
            case LETTERS:
                Due.tell(x, LETTERS_96);
                break;
            case FULL:
                Due.town(x, SIX);
                x.image();
                Due.town(x, EIGHT);
                row(x, 63, 55, 63, 55, 63, 55, 63, 55, 63, 55, 63, 55);
                Due.tell(x, "p+1+1;".repeat(16));
                break;
            default:
                break;
        }
        return x;
    }

    private static void row(CrossesAllOld x, int... numbers) {
        for (int number : numbers) {
            x.row(number);
        }
    }

    private static int streetsOf(State state) {
        return state == State.HALF ? 3 : state == State.FULL ? 6 : 0;
    }

    private static int plotsOf(State state) {
        return state == State.HALF ? 3 : state == State.FULL ? 8 : 0;
    }

    private static void refused(State state, String call, long due, Call made) {
        CrossesAllOld x = make(state);
        String when = call + " of " + state;
        int refusal = (int) (due >= FAR ? due - FAR : -due);
        int[] counts = new int[6];
        for (int i = 1; i <= 2; i++) {
            Due.is(when, due, made.of(x));
            counts[refusal - 1] = i;
            Due.refusals(x, "behind " + when, counts);
        }
        Questions.same("behind " + when, make(state), x);
    }

    private static void letters(State state) {
        Due.says("letter: -4; -6 (255; 96, too)");
        for (int c : new int[] {-1, -115, LEAST}) {
            refused(state, "letter(" + c + ")", -4, x -> x.letter(c));
        }
        for (int c : new int[] {256, 256 + 115, MOST}) {
            refused(state, "letter(" + c + ")", -6, x -> x.letter(c));
        }
        if (state == State.LETTERS || state == State.FULL) {
            for (int c : new int[] {0, 's', ';', 255}) {
                refused(state, "letter(" + c + ")", -6, x -> x.letter(c));
            }
        }
    }

    private static void streets(State state) {
        Due.says("street: -1; -2");
        int streets = streetsOf(state);
        for (int s : new int[] {LEAST, -1, streets, 6, MOST}) {
            for (int what : new int[] {0, 4, -1, 5}) {
                refused(state, "street(" + s + ", " + what + ")", FAR + 1, x -> x.street(s, what));
            }
        }
        for (int what : new int[] {LEAST, -1, 5, MOST}) {
            if (streets > 0) {
                refused(state, "street(0, " + what + ")", FAR + 2, x -> x.street(0, what));
                refused(state, "street(last, " + what + ")", FAR + 2, x -> x.street(streets - 1, what));
            }
        }
    }

    private static void crossings(State state) {
        Due.says("crossing: -1 either (one twice, too); -2");
        int streets = streetsOf(state);
        for (int bad : new int[] {LEAST, -1, streets, 6, MOST}) {
            for (int what : new int[] {0, -1, 4}) {
                refused(state, "crossing(" + bad + ", 0, " + what + ")", FAR + 1, x -> x.crossing(bad, 0, what));
                refused(state, "crossing(0, " + bad + ", " + what + ")", FAR + 1, x -> x.crossing(0, bad, what));
                refused(state, "crossing(" + bad + ", " + bad + ", " + what + ")", FAR + 1, x -> x.crossing(bad, bad, what));
                refused(state, "crossing(0, 0, " + what + ")", FAR + 1, x -> x.crossing(0, 0, what));
            }
        }
        for (int what : new int[] {LEAST, -1, 4, MOST}) {
            if (streets > 0) {
                refused(state, "crossing(0, last, " + what + ")", FAR + 2, x -> x.crossing(0, streets - 1, what));
                refused(state, "crossing(last, 0, " + what + ")", FAR + 2, x -> x.crossing(streets - 1, 0, what));
            }
        }
    }

    private static void plots(State state) {
        Due.says("plot: -1; -2; where, together: -1");
        int plots = plotsOf(state);
        for (int p : new int[] {LEAST, -1, plots, 8, MOST}) {
            for (int what : new int[] {0, 1, -1, 2}) {
                refused(state, "plot(" + p + ", " + what + ")", FAR + 1, x -> x.plot(p, what));
            }
            refused(state, "where(" + p + ")", -1, x -> x.where(p));
            refused(state, "together(" + p + ")", -1, x -> x.together(p));
        }
        for (int what : new int[] {LEAST, -1, 2, MOST}) {
            if (plots > 0) {
                refused(state, "plot(0, " + what + ")", FAR + 2, x -> x.plot(0, what));
                refused(state, "plot(last, " + what + ")", FAR + 2, x -> x.plot(plots - 1, what));
            }
        }
    }

    private static void quarters(State state) {
        Due.says("corners, sides, isOpen: -1; with: -4; -6 12; points: -2");
        // On these sides of the streets there is no point.
        int none = state == State.HALF ? 4 : state == State.FULL ? 56 : 1;
        for (int quarter : new int[] {LEAST, -1, none, 1 << streetsOf(state), 64, 64 + 63, MOST}) {
            refused(state, "corners(" + quarter + ")", -1, x -> x.corners(quarter));
            refused(state, "sides(" + quarter + ")", -1, x -> x.sides(quarter));
            refused(state, "isOpen(" + quarter + ")", -1, x -> x.isOpen(quarter));
        }
        for (int corners : new int[] {LEAST, -1}) {
            refused(state, "with(" + corners + ")", -4, x -> x.with(corners));
        }
        for (int corners : new int[] {13, MOST}) {
            refused(state, "with(" + corners + ")", -6, x -> x.with(corners));
        }
        for (int what : new int[] {LEAST, -1, 3, MOST}) {
            refused(state, "points(" + what + ")", -2, x -> x.points(what));
        }
    }

    private static void steps(State state) {
        Due.says("steps: -1 either");
        for (int bad : new int[] {LEAST, -1, plotsOf(state), 8, MOST}) {
            refused(state, "steps(" + bad + ", 0)", -1, x -> x.steps(bad, 0));
            refused(state, "steps(0, " + bad + ")", -1, x -> x.steps(0, bad));
            refused(state, "steps(" + bad + ", " + bad + ")", -1, x -> x.steps(bad, bad));
        }
    }

    private static void lines(State state) {
        Due.says("next: -1; -4; -6 (A, B 9; C 99); -3; spare, most: -4; -6 9; -3");
        for (int bad : new int[] {LEAST, -2, plotsOf(state), 8, MOST}) {
            refused(state, "next(7, 5, 3, " + bad + ")", -1, x -> x.next(7, 5, 3, bad));
        }
        for (int[] l : new int[][] {{-10, 1}, {1, -10}, {LEAST, 1}, {1, LEAST}}) {
            refusedLine(state, l[0], l[1], -4);
        }
        for (int[] l : new int[][] {{10, 1}, {1, 10}, {MOST, 1}, {1, MOST}}) {
            refusedLine(state, l[0], l[1], -6);
        }
        refusedLine(state, 0, 0, -3);
        if (streetsOf(state) > 0) {
            for (int[] l : new int[][] {{1, 0}, {-9, 0}, {0, 1}, {0, -9}, {1, 1}, {-4, -4}}) {
                refusedLine(state, l[0], l[1], -3);
            }
        }
        for (int plot = -1; plot < plotsOf(state); plot++) {
            int p = plot;
            for (int c : new int[] {-100, LEAST}) {
                refused(state, "next(7, 5, " + c + ", " + p + ")", -4, x -> x.next(7, 5, c, p));
            }
            for (int c : new int[] {100, MOST}) {
                refused(state, "next(7, 5, " + c + ", " + p + ")", -6, x -> x.next(7, 5, c, p));
            }
        }
    }

    private static void refusedLine(State state, int a, int b, int due) {
        String line = a + ", " + b;
        refused(state, "next(" + line + ", 3, -1)", due, x -> x.next(a, b, 3, -1));
        if (plotsOf(state) > 0) {
            refused(state, "next(" + line + ", 3, 0)", due, x -> x.next(a, b, 3, 0));
        }
        refused(state, "spare(" + line + ")", FAR - due, x -> x.spare(a, b));
        refused(state, "most(" + line + ")", due, x -> x.most(a, b));
    }

    private static void linesThroughPlots(State state) {
        Due.says("through: -1; -4; -6 9; -3 (0 and 0 alone)");
        int plots = plotsOf(state);
        for (int bad : new int[] {LEAST, -1, plots, 8, MOST}) {
            refused(state, "through(1, 1, " + bad + ")", FAR + 1, x -> x.through(1, 1, bad));
        }
        for (int plot = 0; plot < plots; plot++) {
            int p = plot;
            for (int bad : new int[] {LEAST, -10}) {
                refused(state, "through(" + bad + ", 1, " + p + ")", FAR + 4, x -> x.through(bad, 1, p));
                refused(state, "through(1, " + bad + ", " + p + ")", FAR + 4, x -> x.through(1, bad, p));
            }
            for (int bad : new int[] {MOST, 10}) {
                refused(state, "through(" + bad + ", 1, " + p + ")", FAR + 6, x -> x.through(bad, 1, p));
                refused(state, "through(1, " + bad + ", " + p + ")", FAR + 6, x -> x.through(1, bad, p));
            }
            refused(state, "through(0, 0, " + p + ")", FAR + 3, x -> x.through(0, 0, p));
        }
    }

    private static void fearAndTaken(State state) {
        Due.says("fear: -1; -2; taken: -1");
        int plots = plotsOf(state);
        for (int bad : new int[] {LEAST, -1, plots, 8, MOST}) {
            for (int what : new int[] {0, 1, -1, 2}) {
                refused(state, "fear(" + bad + ", " + what + ")", -1, x -> x.fear(bad, what));
            }
        }
        for (int what : new int[] {LEAST, -1, 2, MOST}) {
            for (int plot = 0; plot < plots; plot++) {
                int p = plot;
                refused(state, "fear(" + p + ", " + what + ")", -2, x -> x.fear(p, what));
            }
        }
        for (int bad : new int[] {LEAST, -2, streetsOf(state), 6, MOST}) {
            refused(state, "taken(" + bad + ")", -1, x -> x.taken(bad));
        }
    }

    private static void rowAndSeeds(State state) {
        Due.says("row: -4; -6 (63; 12, too); seeds: -4; -6 30");
        for (int v : new int[] {LEAST, -1}) {
            refused(state, "row(" + v + ")", -4, x -> x.row(v));
        }
        for (int v : new int[] {64, MOST}) {
            refused(state, "row(" + v + ")", -6, x -> x.row(v));
        }
        if (state == State.FULL) {
            for (int v : new int[] {0, 63}) {
                refused(state, "row(" + v + ")", -6, x -> x.row(v));
            }
        }
        for (int z : new int[] {LEAST, 0, MOST}) {
            for (int n : new int[] {LEAST, -1, 0}) {
                refused(state, "seeds(" + n + ", " + z + ")", -4, x -> x.seeds(n, z));
            }
            for (int n : new int[] {31, MOST}) {
                refused(state, "seeds(" + n + ", " + z + ")", -6, x -> x.seeds(n, z));
            }
        }
    }

    private static void firstOfTwo() {
        Due.says("the first that fits in the order in which it tells them");
        refused(State.FULL, "letter(-1), no room", -4, x -> x.letter(-1));
        refused(State.FULL, "letter(256), no room", -6, x -> x.letter(256));
        refused(State.FULL, "row(-1), no room", -4, x -> x.row(-1));
        refused(State.FULL, "row(64), no room", -6, x -> x.row(64));
        refused(State.HALF, "street(3, 5)", FAR + 1, x -> x.street(3, 5));
        refused(State.HALF, "plot(3, 2)", FAR + 1, x -> x.plot(3, 2));
        refused(State.HALF, "crossing(0, 3, 4)", FAR + 1, x -> x.crossing(0, 3, 4));
        refused(State.HALF, "crossing(3, 0, 4)", FAR + 1, x -> x.crossing(3, 0, 4));
        refused(State.HALF, "crossing(1, 1, 4)", FAR + 1, x -> x.crossing(1, 1, 4));
        refused(State.HALF, "fear(3, 2)", -1, x -> x.fear(3, 2));
    }

    // A line is told as A, B, C; a line of a direction that there is, or 0 and 0, may lie outside, too.
    private static void firstOfTwoLines() {
        Due.says("the first that fits in the order in which it tells them (lines)");
        int[][] outside = {{-10, 1, 3}, {10, 1, 3}, {1, 10, 3}, {1, -10, 3}, {7, 5, -100}, {7, 5, 100}, {0, 0, 3}, {1, 0, 3}, {-10, 10, 100}};
        for (int[] l : outside) {
            refused(State.HALF, "next of no plot and another", -1, x -> x.next(l[0], l[1], l[2], 3));
            refused(State.HALF, "next of plot -2 and another", -1, x -> x.next(l[0], l[1], l[2], -2));
            if (l[2] == 3) {
                refused(State.HALF, "through of no plot and another", FAR + 1, x -> x.through(l[0], l[1], 3));
            }
        }
        int[][] below = {{-10, 10, 3}, {10, -10, 3}, {-10, 7, 100}, {10, 7, -100}, {7, -10, 100}, {7, 10, -100}, {0, 0, -100}, {1, 0, -100},
            {0, -10, 3}, {-10, 0, 3}, {-10, -10, 3}, {10, 10, -100}, {-10, 10, 100}};
        for (int[] l : below) {
            below(l, -4);
        }
        int[][] above = {{0, 0, 100}, {1, 0, 100}, {2, 2, 100}, {10, 10, 3}, {10, 0, 3}, {0, 10, 3}, {10, 10, 100}};
        for (int[] l : above) {
            below(l, -6);
        }
    }

    private static void below(int[] l, int due) {
        String line = l[0] + ", " + l[1];
        for (int plot = -1; plot < 3; plot++) {
            int p = plot;
            refused(State.HALF, "next(" + line + ", " + l[2] + ", " + p + ")", due, x -> x.next(l[0], l[1], l[2], p));
        }
        if (l[2] == 3) {
            refused(State.HALF, "spare(" + line + ")", FAR - due, x -> x.spare(l[0], l[1]));
            refused(State.HALF, "most(" + line + ")", due, x -> x.most(l[0], l[1]));
            refused(State.HALF, "through(" + line + ", 0)", FAR - due, x -> x.through(l[0], l[1], 0));
        }
    }

    private static void aheadOfAnswers() {
        Due.says("the call answers the number (plot 0 is on a street, and would answer -9)");
        refused(State.HALF, "next(10, 1, 3, 0)", -6, x -> x.next(10, 1, 3, 0));
        refused(State.HALF, "next(1, 0, 3, 0)", -3, x -> x.next(1, 0, 3, 0));
        refused(State.HALF, "steps(0, 3)", -1, x -> x.steps(0, 3));
        refused(State.HALF, "steps(3, 0)", -1, x -> x.steps(3, 0));
        refused(State.HALF, "fear(0, 2)", -2, x -> x.fear(0, 2));
        CrossesAllOld x = make(State.HALF);
        Due.is("next(7, 5, 3, 0)", -9, x.next(7, 5, 3, 0));
        Due.is("steps(0, 1)", -9, x.steps(0, 1));
        Due.is("fear(0, 0)", -9, x.fear(0, 0));
        Due.refusals(x, "behind -9");
    }
}
