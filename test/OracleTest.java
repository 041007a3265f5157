import java.util.List;
import java.util.Random;

/** Promises 4 to 24 and 26, on many towns, against answers found another way (Oracle). */
public final class OracleTest {
    private static final int TOWNS = 1500;

    public static void main(String[] args) {
        for (int town = 0; town < TOWNS; town++) {
            Random random = new Random(town);
            Oracle due = town(random, town % 4 == 3 ? 9 : 1 + town % 4, town % 4 == 3 ? 99 : town % 3 * 3);
            CrossesAllOld x = told(due);
            streets(x, due);
            quarters(x, due);
            plots(x, due);
            lines(x, due, random);
            rows(x, due, random);
        }
        Due.end("OracleTest");
    }

    // Small numbers make many squares, large ones few.
    private static Oracle town(Random random, int mostAb, int mostC) {
        int[][] streets = new int[0][];
        char[] kinds = new char[6];
        int wanted = random.nextInt(7);
        for (int tries = 0; tries < 60 && streets.length < wanted; tries++) {
            int[] street = {one(random, mostAb), one(random, mostAb), one(random, mostC)};
            if (new Oracle(streets, kinds, null).isNew(street[0], street[1])) {
                kinds[streets.length] = "pldgtn".charAt(random.nextInt(6));
                streets = java.util.Arrays.copyOf(streets, streets.length + 1);
                streets[streets.length - 1] = street;
            }
        }
        int[][] plots = new int[random.nextInt(9)][];
        int far = random.nextBoolean() ? 20 : 4;
        for (int p = 0; p < plots.length; p++) {
            plots[p] = new int[] {one(random, far), one(random, far)};
        }
        return new Oracle(streets, kinds, plots);
    }

    private static int one(Random random, int most) {
        return random.nextInt(2 * most + 1) - most;
    }

    private static CrossesAllOld told(Oracle due) {
        CrossesAllOld x = new CrossesAllOld();
        for (int s = 0; s < due.streets.length; s++) {
            int[] street = due.streets[s];
            Due.town(x, "s" + due.kinds[s] + Due.number(street[0]) + Due.number(street[1]) + Due.number(street[2]) + ";");
        }
        for (int[] plot : due.plots) {
            Due.town(x, "p" + Due.number(plot[0]) + Due.number(plot[1]) + ";");
        }
        Due.is("streets", due.streets.length, x.count(0));
        Due.is("plots", due.plots.length, x.count(1));
        return x;
    }

    private static void streets(CrossesAllOld x, Oracle due) {
        int lamps = 0;
        for (int s = 0; s < due.streets.length; s++) {
            Due.is("lamps from " + s, due.lamps(s), x.street(s, 4));
            lamps += due.lamps(s);
            Due.is("taken(" + s + ")", due.without(s).quarters().size(), x.taken(s));
            for (int other = 0; other < due.streets.length; other++) {
                for (int what = 0; what < 4 && other != s; what++) {
                    Due.is("crossing", due.crossing(s, other)[what], x.crossing(s, other, what));
                }
            }
        }
        Due.is("lamps()", lamps, x.lamps());
        Due.is("taken(-1)", due.taken(), x.taken(-1));
        int squares = 0;
        int most = 0;
        for (int[] point : due.points()) {
            squares += due.meeting(point) > 2 ? 1 : 0;
            most = Math.max(most, due.meeting(point));
        }
        Due.is("points(0)", due.points().size(), x.points(0));
        Due.is("points(1)", squares, x.points(1));
        Due.is("points(2)", most, x.points(2));
    }

    private static void quarters(CrossesAllOld x, Oracle due) {
        int open = 0;
        int whole = 0;
        int[] with = new int[13];
        for (int q = 0; q < 64; q++) {
            boolean there = due.has(q);
            Due.is("isOpen", !there ? -1 : due.isOpen(q) ? 1 : 0, x.isOpen(q));
            Due.is("corners", !there ? -1 : due.corners(q), x.corners(q));
            Due.is("sides", !there ? -1 : due.sides(q), x.sides(q));
            if (there) {
                open += due.isOpen(q) ? 1 : 0;
                whole += due.sides(q) == due.streets.length ? 1 : 0;
                with[due.corners(q)]++;
            }
        }
        Due.is("quarters()", due.quarters().size(), x.quarters());
        Due.is("open()", open, x.open());
        Due.is("whole()", whole, x.whole());
        for (int corners = 0; corners <= 12; corners++) {
            Due.is("with(" + corners + ")", with[corners], x.with(corners));
        }
    }

    private static void plots(CrossesAllOld x, Oracle due) {
        for (int p = 0; p < due.plots.length; p++) {
            Due.is("where", due.where(p), x.where(p));
            int together = 0;
            for (int q = 0; q < due.plots.length; q++) {
                together |= due.where(p) != -9 && due.where(p) == due.where(q) ? 1 << q : 0;
                Due.is("steps", due.steps(p, q), x.steps(p, q));
            }
            Due.is("together", together, x.together(p));
        }
        if (due.plots.length > 0) {
            int p = due.plots.length - 1;
            Due.is("fear 0", due.fear(p, 0), x.fear(p, 0));
            Due.is("fear 1", due.fear(p, 1), x.fear(p, 1));
        }
    }

    private static void lines(CrossesAllOld x, Oracle due, Random random) {
        for (int i = 0; i < 10; i++) {
            int most = i % 2 == 0 ? 9 : 2;
            int a = one(random, most);
            int b = one(random, most);
            int c = i % 3 == 0 ? one(random, 99) : one(random, 5);
            if (due.isNew(a, b)) {
                int cut = 0;
                List<Integer> quarters = due.quarters();
                for (int q : quarters) {
                    cut += due.cuts(a, b, c, q) ? 1 : 0;
                }
                Due.is("next(.., -1)", cut, x.next(a, b, c, -1));
                for (int p = 0; p < due.plots.length; p++) {
                    int want = due.where(p) == -9 ? -9 : due.cuts(a, b, c, due.where(p)) ? 1 : 0;
                    Due.is("next(.., p)", want, x.next(a, b, c, p));
                }
                if (i < 4) {
                    Due.is("spare", due.spare(a, b), x.spare(a, b));
                    Due.is("most", due.most(a, b), x.most(a, b));
                }
            } else {
                Due.is("next of no new direction", -3, x.next(a, b, c, -1));
                Due.is("spare of no new direction", 1000000003, x.spare(a, b));
                Due.is("most of no new direction", -3, x.most(a, b));
            }
        }
    }

    private static void rows(CrossesAllOld x, Oracle due, Random random) {
        for (int i = 0; i < 4; i++) {
            int due1 = -9;
            int last = 0;
            int length = random.nextInt(13);
            for (int j = 0; j < length; j++) {
                int street = random.nextInt(6);
                int number = j == 0 ? random.nextInt(1 << due.streets.length) : random.nextInt(12) == 0 ? random.nextInt(64) : last ^ 1 << street;
                boolean bad = !due.has(number);
                if (!bad && j > 0 && due.has(last)) {
                    int bit = last ^ number;
                    bad = Integer.bitCount(bit) != 1 || !due.liesAt(last, Integer.numberOfTrailingZeros(bit));
                }
                due1 = bad && due1 == -9 ? j : due1;
                x.row(number);
                last = number;
            }
            Due.is("judge()", due1, x.judge());
        }
    }
}
