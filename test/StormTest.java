import java.util.Random;

/** All promises: calls of all kinds, wild ones too. None throws, and a refused one changes nothing but its count. */
public final class StormTest {
    private static final int OBJECTS = 300;
    private static final int CALLS = 512;
    private static final int[] WILD = {Integer.MIN_VALUE, Integer.MIN_VALUE + 1, Integer.MAX_VALUE, -1, -2, 6, 7, 8, 9, 10, -9, -10,
        12, 13, 20, 21, 30, 31, 32, 63, 64, 96, 99, 100, -99, -100, 255, 256, 1 << 16, 1 << 30};
    private static final String[] STATEMENTS = {"sp+1+0+0;", "sl+0+1-3;", "sd+1+1+4;", "sg-1+2+0;", "st+9-9+99;", "sn+2+1+1;",
        "p+1+1;", "p-20+20;", "p+5+0;", "p+0-9;", "p+21+0;", "x", "s", ";", "sp+0+0+0;", "p+1"};

    public static void main(String[] args) {
        for (int object = 0; object < OBJECTS; object++) {
            storm(new Random(object));
        }
        for (int call = 0; call < 29; call++) {
            for (int a : WILD) {
                for (int b : WILD) {
                    CrossesAllOld x = Due.with("sp+1+0+0;sl+0+1+3;sg+1+1+4;p+1+1;p+0+1;");
                    refusedOrNot(x, call, a, b, a, b);
                    refusedOrNot(x, call, 1, 2, a, b);
                    refusedOrNot(x, call, a, 2, b, 0);
                }
            }
        }
        Due.end("StormTest");
    }

    private static void storm(Random random) {
        CrossesAllOld x = new CrossesAllOld();
        for (int i = 0; i < CALLS; i++) {
            if (random.nextInt(20) == 0) {
                Due.tell(x, STATEMENTS[random.nextInt(STATEMENTS.length)]);
            }
            refusedOrNot(x, random.nextInt(29), any(random), any(random), any(random), any(random));
        }
    }

    private static int any(Random random) {
        switch (random.nextInt(5)) {
            case 0: return WILD[random.nextInt(WILD.length)];
            case 1: return random.nextInt();
            case 2: return random.nextInt(200) - 100;
            default: return random.nextInt(8) - 1;
        }
    }

    private static void refusedOrNot(CrossesAllOld x, int call, int a, int b, int c, int d) {
        boolean watched = (a + b & 3) == 0;
        long before = watched ? ImageTest.answers(x) * 31 + x.count(2) * 97 + x.count(3) : 0;
        int[] counts = counts(x);
        long got;
        try {
            got = call(x, call, a, b, c, d);
        } catch (RuntimeException thrown) {
            Due.is("call " + call + " of " + a + " " + b + " " + c + " " + d + " threw " + thrown, 0, 1);
            return;
        }
        int refusal = refusal(call, got);
        if (refusal != 0) {
            counts[-refusal]++;
            if (watched) {
                long after = ImageTest.answers(x) * 31 + x.count(2) * 97 + x.count(3);
                Due.is("all but the count behind refused call " + call, before, after);
            }
        }
        int[] now = counts(x);
        for (int i = 1; i <= 6; i++) {
            Due.is("count of -" + i + " behind call " + call, counts[i], now[i]);
        }
    }

    private static int[] counts(CrossesAllOld x) {
        int[] counts = new int[7];
        for (int i = 1; i <= 6; i++) {
            counts[i] = x.count(10 + i);
        }
        return counts;
    }

    private static int refusal(int call, long got) {
        if (call == 2 || call == 3 || call == 4 || call == 19 || call == 18) {
            return got > 999999999 ? (int) (1000000000 - got) : 0;
        }
        boolean counted = call != 1 && call != 28;
        return counted && got < 0 && got >= -6 ? (int) got : 0;
    }

    static long call(CrossesAllOld x, int call, int a, int b, int c, int d) {
        switch (call) {
            case 0: return x.letter(a);
            case 1: return x.town();
            case 2: return x.street(a, b);
            case 3: return x.plot(a, b);
            case 4: return x.crossing(a, b, c);
            case 5: return x.quarters();
            case 6: return x.open();
            case 7: return x.with(a);
            case 8: return x.corners(a);
            case 9: return x.sides(a);
            case 10: return x.isOpen(a);
            case 11: return x.whole();
            case 12: return x.points(a);
            case 13: return x.lamps();
            case 14: return x.where(a);
            case 15: return x.together(a);
            case 16: return x.steps(a, b);
            case 17: return x.next(a, b, c, d);
            case 18: return x.through(a, b, c);
            case 19: return x.spare(a, b);
            case 20: return x.most(a, b);
            case 21: return x.fear(a, b);
            case 22: return x.taken(a);
            case 23: return x.row(a);
            case 24: return x.judge();
            case 25: return x.seeds(a, b);
            case 26: return x.image();
            case 27: return x.on();
            default: return x.count(a);
        }
    }
}
