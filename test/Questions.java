/** All that an object can be asked, the ROW, the letters and THE IMAGE at the end; some 260 calls, for 512 are promised. */
final class Questions {
    private final CrossesAllOld x;
    private final int[] answers = new int[400];
    private final String[] calls = new String[400];
    private int asked;

    private Questions(CrossesAllOld x) {
        this.x = x;
    }

    /** Both answer alike; how many REFUSALS there were is not asked. Both are changed by it. */
    static void same(String when, CrossesAllOld due, CrossesAllOld got) {
        Questions wanted = new Questions(due);
        Questions given = new Questions(got);
        wanted.askAll();
        given.askAll();
        for (int i = 0; i < Math.max(wanted.asked, given.asked); i++) {
            Due.is(when + ", " + wanted.calls[i], wanted.answers[i], given.answers[i]);
        }
    }

    private void keep(String call, int answer) {
        calls[asked] = call;
        answers[asked] = answer;
        asked++;
    }

    private void askAll() {
        for (int what = 0; what < 4; what++) {
            keep("count(" + what + ")", x.count(what));
        }
        askStreets();
        askQuarters();
        askPlots();
        askLines();
        askOfNone();
        keep("judge()", x.judge());
        askTown();
        keep("on()", x.on());
        askStreets();
        askOfNone();
        keep("plots then", x.count(1));
        keep("quarters() then", x.quarters());
    }

    private void askStreets() {
        int streets = x.count(0);
        for (int s = 0; s < streets; s++) {
            for (int what = 0; what < 5; what++) {
                keep("street(" + s + ", " + what + ")", x.street(s, what));
            }
            keep("taken(" + s + ")", x.taken(s));
        }
        keep("taken(-1)", x.taken(-1));
        for (int what = 0; what < 4 && streets > 1; what++) {
            keep("crossing(0, last, " + what + ")", x.crossing(0, streets - 1, what));
        }
        for (int what = 0; what < 3; what++) {
            keep("points(" + what + ")", x.points(what));
        }
    }

    private void askQuarters() {
        keep("quarters()", x.quarters());
        keep("open()", x.open());
        keep("whole()", x.whole());
        keep("lamps()", x.lamps());
        for (int corners = 0; corners < 7; corners++) {
            keep("with(" + corners + ")", x.with(corners));
        }
        int numbers = 1 << x.count(0);
        for (int quarter = 0; quarter < numbers; quarter++) {
            keep("corners(" + quarter + ")", x.corners(quarter));
        }
    }

    private void askPlots() {
        int plots = x.count(1);
        for (int p = 0; p < plots; p++) {
            keep("plot(" + p + ", 0)", x.plot(p, 0));
            keep("plot(" + p + ", 1)", x.plot(p, 1));
            keep("where(" + p + ")", x.where(p));
            keep("together(" + p + ")", x.together(p));
            keep("steps(0, " + p + ")", x.steps(0, p));
            keep("fear(" + p + ", 0)", x.fear(p, 0));
        }
    }

    private void askLines() {
        keep("next(7, 5, 3, -1)", x.next(7, 5, 3, -1));
        keep("spare(7, 5)", x.spare(7, 5));
        keep("most(7, 5)", x.most(7, 5));
        keep("seeds(30, 5)", x.seeds(30, 5));
    }

    // The first number that is not there, of streets and of plots.
    private void askOfNone() {
        int street = x.count(0);
        int plot = x.count(1);
        keep("street(none, 1)", x.street(street, 1));
        keep("crossing(none, 0, 1)", x.crossing(street, 0, 1));
        keep("crossing(0, none, 1)", x.crossing(0, street, 1));
        keep("taken(none)", x.taken(street));
        keep("plot(none, 0)", x.plot(plot, 0));
        keep("where(none)", x.where(plot));
        keep("together(none)", x.together(plot));
        keep("steps(none, 0)", x.steps(plot, 0));
        keep("steps(0, none)", x.steps(0, plot));
        keep("next(7, 5, 3, none)", x.next(7, 5, 3, plot));
        keep("through(7, 5, none)", x.through(7, 5, plot));
        keep("fear(none, 0)", x.fear(plot, 0));
    }

    // What the letters were is told by what they become, alone and with an end put behind them.
    private void askTown() {
        keep("letter(';')", x.letter(';'));
        keep("town()", x.town());
        keep("streets behind it", x.count(0));
        keep("plots behind it", x.count(1));
        keep("letters behind it", x.count(3));
        keep("quarters() behind it", x.quarters());
    }
}
