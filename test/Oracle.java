import java.util.ArrayList;
import java.util.HashMap;
import java.util.List;
import java.util.Map;
import java.util.TreeSet;

/**
 * The same questions answered another way: a quarter is there if its inequalities can be met (one unknown is taken
 * out, then the other), for each of the numbers by itself; nothing is shared with the program.
 */
final class Oracle {
    final int[][] streets;
    final int[][] plots;
    final char[] kinds;
    private final Map<Integer, Boolean> there = new HashMap<>();

    Oracle(int[][] streets, char[] kinds, int[][] plots) {
        this.streets = streets;
        this.kinds = kinds;
        this.plots = plots;
    }

    /** Whether all of p x + q y more than r can be met at once. */
    static boolean met(List<long[]> inequalities) {
        List<long[]> ofX = new ArrayList<>();
        for (long[] low : inequalities) {
            if (low[1] == 0) {
                ofX.add(new long[] {low[0], low[2]});
            }
            for (long[] high : inequalities) {
                if (low[1] > 0 && high[1] < 0) {
                    ofX.add(new long[] {low[0] * -high[1] + high[0] * low[1], low[2] * -high[1] + high[2] * low[1]});
                }
            }
        }
        return metByOne(ofX);
    }

    /** Whether all of p x more than r can be met at once. */
    static boolean metByOne(List<long[]> inequalities) {
        for (long[] low : inequalities) {
            if (low[0] == 0 && low[1] >= 0) {
                return false;
            }
            for (long[] high : inequalities) {
                // r / p of the one is below r / p of the other, p above 0 here and below 0 there
                if (low[0] > 0 && high[0] < 0 && low[1] * -high[0] >= -high[1] * low[0]) {
                    return false;
                }
            }
        }
        return true;
    }

    List<long[]> inequalities(int quarter) {
        List<long[]> all = new ArrayList<>();
        for (int s = 0; s < streets.length; s++) {
            int sign = (quarter >> s & 1) == 1 ? 1 : -1;
            all.add(new long[] {sign * streets[s][0], sign * streets[s][1], sign * streets[s][2]});
        }
        return all;
    }

    boolean has(int quarter) {
        if (quarter < 0 || quarter >= 1 << streets.length) {
            return false;
        }
        return there.computeIfAbsent(quarter, q -> met(inequalities(q)));
    }

    List<Integer> quarters() {
        List<Integer> all = new ArrayList<>();
        for (int q = 0; q < 64; q++) {
            if (has(q)) {
                all.add(q);
            }
        }
        return all;
    }

    boolean cuts(int a, int b, int c, int quarter) {
        for (int sign = -1; sign <= 1; sign += 2) {
            List<long[]> all = inequalities(quarter);
            all.add(new long[] {sign * a, sign * b, sign * c});
            if (!met(all)) {
                return false;
            }
        }
        return true;
    }

    boolean isOpen(int quarter) {
        for (int[] street : streets) {
            for (int sign = -1; sign <= 1; sign += 2) {
                boolean endless = true;
                for (long[] wall : inequalities(quarter)) {
                    endless &= wall[0] * -street[1] * sign + wall[1] * street[0] * sign >= 0;
                }
                if (endless) {
                    return true;
                }
            }
        }
        return streets.length == 0;
    }

    /** Whether a piece of the street, not a point alone, is an edge of the quarter. */
    boolean liesAt(int quarter, int street) {
        int[] own = streets[street];
        long length = own[0] * own[0] + own[1] * own[1];
        List<long[]> walls = inequalities(quarter);
        List<long[]> onStreet = new ArrayList<>();
        for (int s = 0; s < streets.length; s++) {
            if (s != street) {
                long[] wall = walls.get(s);
                long at = wall[0] * own[0] * own[2] + wall[1] * own[1] * own[2];
                onStreet.add(new long[] {wall[0] * -own[1] + wall[1] * own[0], wall[2] * length - at});
            }
        }
        return metByOne(onStreet);
    }

    int sides(int quarter) {
        int sides = 0;
        for (int s = 0; s < streets.length; s++) {
            sides += liesAt(quarter, s) ? 1 : 0;
        }
        return sides;
    }

    /** x above, x below, y above, y below. */
    int[] crossing(int one, int other) {
        int[] s = streets[one];
        int[] t = streets[other];
        int below = s[0] * t[1] - t[0] * s[1];
        int[] x = least(s[2] * t[1] - t[2] * s[1], below);
        int[] y = least(s[0] * t[2] - t[0] * s[2], below);
        return new int[] {x[0], x[1], y[0], y[1]};
    }

    private static int[] least(int above, int below) {
        int d = java.math.BigInteger.valueOf(above).gcd(java.math.BigInteger.valueOf(below)).intValue();
        d = below < 0 ? -d : d;
        return new int[] {above / d, below / d};
    }

    private static long by(int a, int b, int c, int[] point) {
        return (long) a * point[0] * point[3] + (long) b * point[2] * point[1] - (long) c * point[1] * point[3];
    }

    /** The points, each once, with the streets that meet there. */
    List<int[]> points() {
        List<int[]> all = new ArrayList<>();
        for (int one = 0; one < streets.length; one++) {
            for (int other = 0; other < one; other++) {
                int[] point = crossing(one, other);
                boolean known = false;
                for (int[] old : all) {
                    known |= java.util.Arrays.equals(old, point);
                }
                if (!known) {
                    all.add(point);
                }
            }
        }
        return all;
    }

    int meeting(int[] point) {
        int meeting = 0;
        for (int[] street : streets) {
            meeting += by(street[0], street[1], street[2], point) == 0 ? 1 : 0;
        }
        return meeting;
    }

    int corners(int quarter) {
        int corners = 0;
        for (int[] point : points()) {
            boolean onEdge = true;
            for (long[] wall : inequalities(quarter)) {
                onEdge &= by((int) wall[0], (int) wall[1], (int) wall[2], point) >= 0;
            }
            corners += onEdge ? 1 : 0;
        }
        return corners;
    }

    int lamps(int street) {
        int lamps = 0;
        for (int[] point : points()) {
            if (by(streets[street][0], streets[street][1], streets[street][2], point) == 0) {
                switch (kinds[street]) {
                    case 'p': lamps += 1; break;
                    case 'l': lamps += 2; break;
                    case 'g': lamps += meeting(point) > 2 ? 7 : 2; break;
                    case 't': lamps += 1 + street; break;
                    case 'n': lamps += street == streets.length - 1 ? 7 : 0; break;
                    default: break;
                }
            }
        }
        return lamps;
    }

    int where(int x, int y) {
        int quarter = 0;
        for (int s = 0; s < streets.length; s++) {
            int by = streets[s][0] * x + streets[s][1] * y;
            if (by == streets[s][2]) {
                return -9;
            }
            quarter += by > streets[s][2] ? 1 << s : 0;
        }
        return quarter;
    }

    int where(int plot) {
        return where(plots[plot][0], plots[plot][1]);
    }

    /** From quarter to quarter, over one street at a time. */
    int steps(int one, int other) {
        int from = where(one);
        int to = where(other);
        if (from == -9 || to == -9) {
            return -9;
        }
        TreeSet<Integer> reached = new TreeSet<>();
        reached.add(from);
        int steps = 0;
        while (!reached.contains(to)) {
            steps++;
            for (int quarter : new ArrayList<>(reached)) {
                for (int s = 0; s < streets.length; s++) {
                    if (liesAt(quarter, s)) {
                        reached.add(quarter ^ 1 << s);
                    }
                }
            }
        }
        return steps;
    }

    boolean isNew(int a, int b) {
        boolean fresh = a != 0 || b != 0;
        for (int[] street : streets) {
            fresh &= street[0] * b != a * street[1];
        }
        return fresh;
    }

    int spare(int a, int b) {
        for (int c = -99; c <= 99; c++) {
            boolean spares = true;
            for (int p = 0; p < plots.length && spares; p++) {
                spares = a * plots[p][0] + b * plots[p][1] != c && (where(p) == -9 || !cuts(a, b, c, where(p)));
            }
            if (spares) {
                return c;
            }
        }
        return -999;
    }

    int most(int a, int b) {
        int most = 0;
        for (int c = -99; c <= 99; c++) {
            int on = 0;
            for (int[] point : points()) {
                on += by(a, b, c, point) == 0 ? 1 : 0;
            }
            most = Math.max(most, on);
        }
        return most;
    }

    int fear(int plot, int what) {
        int quarter = where(plot);
        if (what == 0 && quarter == -9) {
            return -9;
        }
        int found = 0;
        for (int a = 0; a <= 2; a++) {
            for (int b = -2; b <= 2; b++) {
                for (int c = -9; c <= 9 && isNew(a, b); c++) {
                    found += what == 1 || cuts(a, b, c, quarter) ? 1 : 0;
                }
            }
        }
        return found;
    }

    Oracle without(int street) {
        int[][] fewer = new int[streets.length - 1][];
        char[] fewerKinds = new char[streets.length - 1];
        for (int s = 0; s < fewer.length; s++) {
            fewer[s] = streets[s < street ? s : s + 1];
            fewerKinds[s] = kinds[s < street ? s : s + 1];
        }
        return new Oracle(fewer, fewerKinds, plots);
    }

    int taken() {
        int first = -9;
        int fewest = 999;
        for (int s = 0; s < streets.length; s++) {
            int left = without(s).quarters().size();
            if (left < fewest) {
                fewest = left;
                first = s;
            }
        }
        return first;
    }
}
