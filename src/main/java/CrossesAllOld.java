/**
 * Straight streets on a plain, each crossing all the old ones, and the quarters between them.
 * ../shared/DOC.md says what each call answers; its words in capitals stand in the comments here.
 */
public final class CrossesAllOld {
    private static final int NOBODY = -1;
    private static final int OTHER = -2;
    private static final int STATE = -3;
    private static final int BELOW = -4;
    private static final int ROOM = -6;
    private static final int FITS = 0;

    private static final int NONE = -9;
    private static final int NO_LINE = -999;
    private static final int TOLD_FROM = 1000000000;
    private static final int FAULT_OF_LETTERS = -1000;
    private static final int FAULT_OF_STATEMENT = -2000;

    private static final int MOST_STREETS = 6;
    private static final int MOST_PLOTS = 8;
    private static final int MOST_POINTS = 15;
    private static final int MOST_NUMBERS = 64;
    private static final int MOST_CORNERS = 12;
    private static final int MOST_LETTERS = 96;
    private static final int MOST_LETTER = 255;
    private static final int MOST_AB = 9;
    private static final int MOST_C = 99;
    private static final int MOST_XY = 20;
    private static final int MOST_ROW = 12;
    private static final int MOST_SEEDS = 30;
    private static final int FEAR_AB = 2;
    private static final int FEAR_C = 9;

    private static final String KINDS = "pldgtn";
    private static final int LIT = 1;
    private static final int DARK = 2;
    private static final int GRAND = 3;
    private static final int TOLL = 4;
    private static final int NEW = 5;

    private final Town now = new Town();
    private final Town draft = new Town();
    private final Town image = new Town();
    private boolean imageTaken;
    private final Plan plan = new Plan(now);
    private final Letters letters = new Letters();
    private final int[] row = new int[MOST_ROW];
    private int rowLength;
    private final int[] refusals = new int[7];

    public CrossesAllOld() {
        plan.measure();
    }

    public int letter(int c) {
        if (c < 0) {
            return refuse(BELOW);
        }
        if (c > MOST_LETTER || letters.isFull()) {
            return refuse(ROOM);
        }
        return letters.put(c);
    }

    public int town() {
        draft.copyFrom(now);
        int answer = letters.readInto(draft);
        letters.clear();
        if (answer > 0) {
            now.copyFrom(draft);
            plan.measure();
        }
        return answer;
    }

    public int street(int street, int what) {
        if (!now.hasStreet(street)) {
            return refuseFar(NOBODY);
        }
        switch (what) {
            case 0: return now.kind[street];
            case 1: return now.a[street];
            case 2: return now.b[street];
            case 3: return now.c[street];
            case 4: return plan.lampsFrom(street);
            default: return refuseFar(OTHER);
        }
    }

    public int plot(int plot, int what) {
        if (!now.hasPlot(plot)) {
            return refuseFar(NOBODY);
        }
        switch (what) {
            case 0: return now.x[plot];
            case 1: return now.y[plot];
            default: return refuseFar(OTHER);
        }
    }

    public int crossing(int one, int other, int what) {
        if (!now.hasStreet(one) || !now.hasStreet(other) || one == other) {
            return refuseFar(NOBODY);
        }
        int below = now.crossingBelow(one, other);
        int x = now.crossingX(one, other);
        int y = now.crossingY(one, other);
        switch (what) {
            case 0: return cancelled(x, x, below);
            case 1: return cancelled(below, x, below);
            case 2: return cancelled(y, y, below);
            case 3: return cancelled(below, y, below);
            default: return refuseFar(OTHER);
        }
    }

    public int quarters() {
        return Long.bitCount(plan.quarters);
    }

    public int open() {
        return Long.bitCount(plan.openQuarters);
    }

    public int with(int corners) {
        if (corners < 0) {
            return refuse(BELOW);
        }
        if (corners > MOST_CORNERS) {
            return refuse(ROOM);
        }
        int found = 0;
        for (int quarter = 0; quarter < MOST_NUMBERS; quarter++) {
            if (plan.hasQuarter(quarter) && plan.cornersOf(quarter) == corners) {
                found++;
            }
        }
        return found;
    }

    public int corners(int quarter) {
        return plan.hasQuarter(quarter) ? plan.cornersOf(quarter) : refuse(NOBODY);
    }

    public int sides(int quarter) {
        return plan.hasQuarter(quarter) ? plan.sidesOf(quarter) : refuse(NOBODY);
    }

    public int isOpen(int quarter) {
        if (!plan.hasQuarter(quarter)) {
            return refuse(NOBODY);
        }
        return has(plan.openQuarters, quarter) ? 1 : 0;
    }

    public int whole() {
        int found = 0;
        for (int quarter = 0; quarter < MOST_NUMBERS; quarter++) {
            if (plan.hasQuarter(quarter) && plan.sidesOf(quarter) == now.streets) {
                found++;
            }
        }
        return found;
    }

    public int points(int what) {
        switch (what) {
            case 0: return plan.points;
            case 1: return plan.squares();
            case 2: return plan.mostMeeting();
            default: return refuse(OTHER);
        }
    }

    public int lamps() {
        int sum = 0;
        for (int street = 0; street < now.streets; street++) {
            sum += plan.lampsFrom(street);
        }
        return sum;
    }

    public int where(int plot) {
        return now.hasPlot(plot) ? plan.quarterOfPlot(plot) : refuse(NOBODY);
    }

    public int together(int plot) {
        if (!now.hasPlot(plot)) {
            return refuse(NOBODY);
        }
        int quarter = plan.quarterOfPlot(plot);
        int bits = 0;
        for (int other = 0; other < now.plots; other++) {
            if (quarter != NONE && plan.quarterOfPlot(other) == quarter) {
                bits |= 1 << other;
            }
        }
        return bits;
    }

    public int steps(int one, int other) {
        if (!now.hasPlot(one) || !now.hasPlot(other)) {
            return refuse(NOBODY);
        }
        int from = plan.quarterOfPlot(one);
        int to = plan.quarterOfPlot(other);
        if (from == NONE || to == NONE) {
            return NONE;
        }
        // A straight way between the quarters crosses just the streets that part them.
        return Integer.bitCount(from ^ to);
    }

    public int next(int a, int b, int c, int plot) {
        if (plot != -1 && !now.hasPlot(plot)) {
            return refuse(NOBODY);
        }
        int refusal = whyNoNewLine(a, b, c);
        if (refusal != FITS) {
            return refuse(refusal);
        }
        if (plot == -1) {
            return Long.bitCount(plan.cutBy(a, b, c));
        }
        int quarter = plan.quarterOfPlot(plot);
        if (quarter == NONE) {
            return NONE;
        }
        return has(plan.cutBy(a, b, c), quarter) ? 1 : 0;
    }

    public int through(int a, int b, int plot) {
        if (!now.hasPlot(plot)) {
            return refuseFar(NOBODY);
        }
        int refusal = whyNoLine(a, b, 0);
        if (refusal != FITS) {
            return refuseFar(refusal);
        }
        return a * now.x[plot] + b * now.y[plot];
    }

    public int spare(int a, int b) {
        int refusal = whyNoNewLine(a, b, 0);
        if (refusal != FITS) {
            return refuseFar(refusal);
        }
        long withPlots = plan.quartersWithPlots();
        for (int c = -MOST_C; c <= MOST_C; c++) {
            if (!now.hasPlotOn(a, b, c) && (plan.cutBy(a, b, c) & withPlots) == 0) {
                return c;
            }
        }
        return NO_LINE;
    }

    public int most(int a, int b) {
        int refusal = whyNoNewLine(a, b, 0);
        if (refusal != FITS) {
            return refuse(refusal);
        }
        int most = 0;
        for (int c = -MOST_C; c <= MOST_C; c++) {
            most = Math.max(most, plan.pointsOn(a, b, c));
        }
        return most;
    }

    public int fear(int plot, int what) {
        if (!now.hasPlot(plot)) {
            return refuse(NOBODY);
        }
        if (what != 0 && what != 1) {
            return refuse(OTHER);
        }
        int quarter = plan.quarterOfPlot(plot);
        if (what == 0 && quarter == NONE) {
            return NONE;
        }
        int lines = 0;
        int cutting = 0;
        for (int a = 0; a <= FEAR_AB; a++) {
            for (int b = -FEAR_AB; b <= FEAR_AB; b++) {
                if (whyNoNewLine(a, b, 0) == FITS) {
                    lines += 2 * FEAR_C + 1;
                    cutting += what == 0 ? fearedLines(a, b, quarter) : 0;
                }
            }
        }
        return what == 0 ? cutting : lines;
    }

    public int taken(int street) {
        if (street == -1) {
            return dearestStreet();
        }
        return now.hasStreet(street) ? plan.quartersWithout(street) : refuse(NOBODY);
    }

    public int row(int v) {
        if (v < 0) {
            return refuse(BELOW);
        }
        if (v >= MOST_NUMBERS || rowLength >= row.length) {
            return refuse(ROOM);
        }
        row[rowLength] = v;
        rowLength++;
        return rowLength;
    }

    public int judge() {
        int length = rowLength;
        rowLength = 0;
        for (int i = 0; i < length; i++) {
            if (!plan.hasQuarter(row[i])) {
                return i;
            }
            if (i > 0 && Integer.bitCount(row[i] ^ row[i - 1]) != 1) {
                return i;
            }
        }
        return NONE;
    }

    public int seeds(int n, int z) {
        if (n < 1) {
            return refuse(BELOW);
        }
        if (n > MOST_SEEDS) {
            return refuse(ROOM);
        }
        int seed = z;
        long found = 0;
        for (int i = 0; i < n; i++) {
            seed = seedAfter(seed);
            int x = placeDrawn(seed);
            seed = seedAfter(seed);
            int y = placeDrawn(seed);
            int quarter = plan.quarterAt(x, y);
            if (quarter != NONE) {
                found |= 1L << quarter;
            }
        }
        return Long.bitCount(found);
    }

    public int image() {
        image.copyFrom(now);
        imageTaken = true;
        return now.streets;
    }

    public int on() {
        if (!imageTaken) {
            return refuse(STATE);
        }
        now.copyFrom(image);
        plan.measure();
        return now.streets;
    }

    public int count(int what) {
        switch (what) {
            case 0: return now.streets;
            case 1: return now.plots;
            case 2: return rowLength;
            case 3: return letters.count;
            default: return what >= 11 && what <= 16 ? refusals[what - 10] : NONE;
        }
    }

    private int refuse(int refusal) {
        int at = -refusal;
        if (at >= 0 && at < refusals.length) {
            refusals[at]++;
        }
        return refusal;
    }

    // These calls answer numbers below 0 too, so their refusals stand far from all answers.
    private int refuseFar(int refusal) {
        return TOLD_FROM - refuse(refusal);
    }

    private int whyNoLine(int a, int b, int c) {
        if (a < -MOST_AB || b < -MOST_AB || c < -MOST_C) {
            return BELOW;
        }
        if (a > MOST_AB || b > MOST_AB || c > MOST_C) {
            return ROOM;
        }
        return a == 0 && b == 0 ? STATE : FITS;
    }

    private int whyNoNewLine(int a, int b, int c) {
        int refusal = whyNoLine(a, b, c);
        if (refusal == FITS && now.hasDirection(a, b)) {
            return STATE;
        }
        return refusal;
    }

    private int fearedLines(int a, int b, int quarter) {
        int cutting = 0;
        for (int c = -FEAR_C; c <= FEAR_C; c++) {
            if (has(plan.cutBy(a, b, c), quarter)) {
                cutting++;
            }
        }
        return cutting;
    }

    private int dearestStreet() {
        int dearest = NONE;
        int fewestLeft = MOST_NUMBERS + 1;
        for (int street = 0; street < now.streets; street++) {
            int left = plan.quartersWithout(street);
            if (left < fewestLeft) {
                fewestLeft = left;
                dearest = street;
            }
        }
        return dearest;
    }

    private static int seedAfter(int seed) {
        return seed * 1664525 + 1013904223;
    }

    private static int placeDrawn(int seed) {
        return (seed & 0x7fffffff) / 256 % (2 * MOST_XY + 1) - MOST_XY;
    }

    private static boolean has(long bits, int number) {
        return number >= 0 && number < MOST_NUMBERS && (bits >> number & 1) != 0;
    }

    // The part (above or below the line) of a fraction, in least terms; counted down, so that the end is plain.
    private static int cancelled(int part, int above, int below) {
        for (int factor = below; factor > 1; factor--) {
            if (above % factor == 0 && below % factor == 0) {
                return part / factor;
            }
        }
        return part;
    }

    /** What is told of streets and plots: all that THE IMAGE holds. */
    static final class Town {
        final int[] kind = new int[MOST_STREETS];
        final int[] a = new int[MOST_STREETS];
        final int[] b = new int[MOST_STREETS];
        final int[] c = new int[MOST_STREETS];
        int streets;
        final int[] x = new int[MOST_PLOTS];
        final int[] y = new int[MOST_PLOTS];
        int plots;

        boolean hasStreet(int number) {
            return number >= 0 && number < streets;
        }

        boolean hasPlot(int number) {
            return number >= 0 && number < plots;
        }

        boolean hasDirection(int toldA, int toldB) {
            for (int s = 0; s < streets; s++) {
                if (turn(toldA, toldB, s) == 0) {
                    return true;
                }
            }
            return false;
        }

        boolean hasPlotOn(int toldA, int toldB, int toldC) {
            for (int p = 0; p < plots; p++) {
                if (toldA * x[p] + toldB * y[p] == toldC) {
                    return true;
                }
            }
            return false;
        }

        boolean putStreet(int newKind, int newA, int newB, int newC) {
            boolean nowhere = newA == 0 && newB == 0;
            if (nowhere || hasDirection(newA, newB) || streets >= MOST_STREETS) {
                return false;
            }
            kind[streets] = newKind;
            a[streets] = newA;
            b[streets] = newB;
            c[streets] = newC;
            streets++;
            return true;
        }

        boolean putPlot(int newX, int newY) {
            boolean far = Math.abs(newX) > MOST_XY || Math.abs(newY) > MOST_XY;
            if (far || plots >= MOST_PLOTS) {
                return false;
            }
            x[plots] = newX;
            y[plots] = newY;
            plots++;
            return true;
        }

        void copyFrom(Town other) {
            System.arraycopy(other.kind, 0, kind, 0, MOST_STREETS);
            System.arraycopy(other.a, 0, a, 0, MOST_STREETS);
            System.arraycopy(other.b, 0, b, 0, MOST_STREETS);
            System.arraycopy(other.c, 0, c, 0, MOST_STREETS);
            streets = other.streets;
            System.arraycopy(other.x, 0, x, 0, MOST_PLOTS);
            System.arraycopy(other.y, 0, y, 0, MOST_PLOTS);
            plots = other.plots;
        }

        // Above 0, if one who walks the told line in the direction (-B, A) comes to side 1 of the street; 0, if never.
        int turn(int toldA, int toldB, int street) {
            return toldA * b[street] - toldB * a[street];
        }

        int crossingBelow(int one, int other) {
            return Math.abs(turn(a[one], b[one], other));
        }

        int crossingX(int one, int other) {
            int above = c[one] * b[other] - b[one] * c[other];
            return turn(a[one], b[one], other) < 0 ? -above : above;
        }

        int crossingY(int one, int other) {
            int above = a[one] * c[other] - c[one] * a[other];
            return turn(a[one], b[one], other) < 0 ? -above : above;
        }
    }

    /** What follows from the streets of a town. Sets of quarters are longs: a bit for each NUMBER. */
    static final class Plan {
        private final Town town;
        long quarters;
        long openQuarters;
        int points;
        // A point is pointX by pointBelow, pointY by pointBelow.
        private final int[] pointX = new int[MOST_POINTS];
        private final int[] pointY = new int[MOST_POINTS];
        private final int[] pointBelow = new int[MOST_POINTS];
        private final int[] streetsAt = new int[MOST_POINTS];
        private final int[] sidesAt = new int[MOST_POINTS];

        Plan(Town town) {
            this.town = town;
        }

        void measure() {
            measurePoints();
            measureQuarters();
        }

        boolean hasQuarter(int number) {
            return has(quarters, number);
        }

        int cornersOf(int quarter) {
            int corners = 0;
            for (int p = 0; p < points; p++) {
                if ((quarter & ~streetsAt[p]) == sidesAt[p]) {
                    corners++;
                }
            }
            return corners;
        }

        // Two quarters that one street alone parts always share a piece of it.
        int sidesOf(int quarter) {
            int sides = 0;
            for (int s = 0; s < town.streets; s++) {
                if (hasQuarter(quarter ^ 1 << s)) {
                    sides++;
                }
            }
            return sides;
        }

        int squares() {
            int squares = 0;
            for (int p = 0; p < points; p++) {
                if (isSquare(p)) {
                    squares++;
                }
            }
            return squares;
        }

        int mostMeeting() {
            int most = 0;
            for (int p = 0; p < points; p++) {
                most = Math.max(most, Integer.bitCount(streetsAt[p]));
            }
            return most;
        }

        int pointsOn(int a, int b, int c) {
            int found = 0;
            for (int p = 0; p < points; p++) {
                if (a * pointX[p] + b * pointY[p] == c * pointBelow[p]) {
                    found++;
                }
            }
            return found;
        }

        int lampsFrom(int street) {
            int lamps = 0;
            for (int p = 0; p < points; p++) {
                if ((streetsAt[p] >> street & 1) != 0) {
                    lamps += lampsAt(street, isSquare(p));
                }
            }
            return lamps;
        }

        int quarterOfPlot(int plot) {
            return town.hasPlot(plot) ? quarterAt(town.x[plot], town.y[plot]) : NONE;
        }

        int quarterAt(int x, int y) {
            return streetsThrough(x, y, 1) == 0 ? sidesOfPoint(x, y, 1) : NONE;
        }

        long quartersWithPlots() {
            long found = 0;
            for (int p = 0; p < town.plots; p++) {
                int quarter = quarterOfPlot(p);
                if (quarter != NONE) {
                    found |= 1L << quarter;
                }
            }
            return found;
        }

        // Quarters that the street alone parts become one, with its bit 0.
        int quartersWithout(int street) {
            long left = 0;
            for (int quarter = 0; quarter < MOST_NUMBERS; quarter++) {
                if (hasQuarter(quarter)) {
                    left |= 1L << (quarter & ~(1 << street));
                }
            }
            return Long.bitCount(left);
        }

        // By a street of the line's own direction (itself) the side is told as 0.
        long cutBy(int a, int b, int c) {
            long cut = 1L << sidesFar(a, b, 1);
            for (int s = 0; s < town.streets; s++) {
                int turn = town.turn(a, b, s);
                if (turn != 0) {
                    int sign = turn < 0 ? -1 : 1;
                    int x = sign * (c * town.b[s] - b * town.c[s]);
                    int y = sign * (a * town.c[s] - c * town.a[s]);
                    int sides = sidesOfPoint(x, y, sign * turn);
                    int met = streetsThrough(x, y, sign * turn);
                    // Just ahead of the point the line is where it has been from far behind, by all streets met there.
                    cut |= 1L << (sides | met & sidesFar(a, b, -1));
                }
            }
            return cut;
        }

        private void measurePoints() {
            points = 0;
            for (int one = 0; one < town.streets; one++) {
                for (int other = one + 1; other < town.streets; other++) {
                    int x = town.crossingX(one, other);
                    int y = town.crossingY(one, other);
                    int below = town.crossingBelow(one, other);
                    int met = streetsThrough(x, y, below);
                    // A point where many meet is kept once: for the first two of them.
                    boolean first = (met & (1 << other) - 1) == 1 << one;
                    if (first && points < MOST_POINTS) {
                        pointX[points] = x;
                        pointY[points] = y;
                        pointBelow[points] = below;
                        streetsAt[points] = met;
                        sidesAt[points] = sidesOfPoint(x, y, below);
                        points++;
                    }
                }
            }
        }

        // With streets, each quarter lies at one; each open one at an end of one.
        private void measureQuarters() {
            quarters = town.streets == 0 ? 1L : 0L;
            openQuarters = quarters;
            for (int s = 0; s < town.streets; s++) {
                int a = town.a[s];
                int b = town.b[s];
                long ends = 1L << sidesFar(a, b, 1) | 1L << sidesFar(a, b, -1);
                quarters |= onBothSides(cutBy(a, b, town.c[s]), s);
                openQuarters |= onBothSides(ends, s);
            }
        }

        private static long onBothSides(long numbers, int street) {
            return numbers | numbers << (1 << street);
        }

        private boolean isSquare(int point) {
            return Integer.bitCount(streetsAt[point]) >= 3;
        }

        private int lampsAt(int street, boolean onSquare) {
            int plain = 1;
            int lit = 2 * plain;
            int dark = 0;
            switch (town.kind[street]) {
                case LIT: return lit;
                case DARK: return dark;
                case GRAND: return onSquare ? lit + 5 : lit;
                case TOLL: return plain + street;
                case NEW: return street == town.streets - 1 ? dark + 7 : dark;
                default: return plain;
            }
        }

        // How far x by below, y by below lies on side 1 of the street, in its own measure; below is above 0.
        private int height(int x, int y, int below, int street) {
            return town.a[street] * x + town.b[street] * y - town.c[street] * below;
        }

        private int sidesOfPoint(int x, int y, int below) {
            int sides = 0;
            for (int s = 0; s < town.streets; s++) {
                if (height(x, y, below, s) > 0) {
                    sides |= 1 << s;
                }
            }
            return sides;
        }

        private int streetsThrough(int x, int y, int below) {
            int met = 0;
            for (int s = 0; s < town.streets; s++) {
                if (height(x, y, below, s) == 0) {
                    met |= 1 << s;
                }
            }
            return met;
        }

        // The sides of the line's points beyond all streets: way 1 in the direction (-B, A), -1 the other way.
        private int sidesFar(int a, int b, int way) {
            int sides = 0;
            for (int s = 0; s < town.streets; s++) {
                if (way * town.turn(a, b, s) > 0) {
                    sides |= 1 << s;
                }
            }
            return sides;
        }
    }

    /** The letters told, and how they are read as STATEMENTS. */
    static final class Letters {
        private static final int A_PLOT = -1;

        private final int[] told = new int[MOST_LETTERS];
        int count;
        private int at;
        private int kind;
        private final int[] numbers = new int[3];

        boolean isFull() {
            return count >= MOST_LETTERS;
        }

        int put(int letter) {
            if (!isFull()) {
                told[count] = letter;
                count++;
            }
            return count;
        }

        void clear() {
            count = 0;
        }

        // All are read before one is put: a fault of letters is told ahead of any other.
        int readInto(Town town) {
            int statements = readAll();
            if (statements < 0) {
                return statements;
            }
            at = 0;
            for (int i = 0; i < statements; i++) {
                int place = at;
                if (!readStatement() || !putStatement(town)) {
                    return FAULT_OF_STATEMENT - place;
                }
            }
            return statements;
        }

        private int readAll() {
            at = 0;
            int statements = 0;
            do {
                if (!readStatement()) {
                    return FAULT_OF_LETTERS - at;
                }
                statements++;
            } while (at < count && statements < MOST_LETTERS);
            return statements;
        }

        private boolean putStatement(Town town) {
            if (kind == A_PLOT) {
                return town.putPlot(numbers[0], numbers[1]);
            }
            return town.putStreet(kind, numbers[0], numbers[1], numbers[2]);
        }

        // Where it fails, at is the place of the letter that does not go on.
        private boolean readStatement() {
            kind = A_PLOT;
            if (takes('s')) {
                return readKind() && readNumber(0, 1) && readNumber(1, 1) && readNumber(2, 2) && takes(';');
            }
            return takes('p') && readNumber(0, 2) && readNumber(1, 2) && takes(';');
        }

        private boolean readKind() {
            kind = at < count ? KINDS.indexOf((char) told[at]) : -1;
            if (kind < 0) {
                return false;
            }
            at++;
            return true;
        }

        private boolean readNumber(int which, int mostDigits) {
            boolean negative = takes('-');
            if (!negative && !takes('+') || !isDigit()) {
                return false;
            }
            int number = 0;
            for (int digits = 0; digits < mostDigits && isDigit(); digits++) {
                number = number * 10 + told[at] - '0';
                at++;
            }
            numbers[which] = negative ? -number : number;
            return true;
        }

        private boolean takes(char wanted) {
            boolean there = at < count && told[at] == wanted;
            if (there) {
                at++;
            }
            return there;
        }

        private boolean isDigit() {
            return at < count && told[at] >= '0' && told[at] <= '9';
        }
    }
}
