import java.util.Random;

/**
 * All promises: runs of 512 mixed calls, each answer held against Model's. Two objects are used in turn, so that what one is
 * told must not be heard by the other.
 */
public final class RunsTest {
    private static final int RUNS = 600;
    private static final int CALLS = 512;
    private static final String SIGNS = "sp+-;0123456789ldgtnx";
    // What is asked more often than the rest: what a run changes by itself, or what most depends on all that is told.
    private static final String[] OFTEN = {"town", "town", "judge", "row", "row", "row", "next", "seeds", "where", "count", "count"};

    private final CrossesAllOld program = new CrossesAllOld();
    private final Model model = new Model();
    private final Random random;
    private final int run;
    private final int mostAb;
    private int calls;
    private int lastOfRow;

    private RunsTest(int run) {
        this.run = run;
        random = new Random(run);
        mostAb = run % 4 == 3 ? 9 : 1 + run % 4;
    }

    public static void main(String[] args) {
        for (int pair = 0; pair < RUNS; pair += 2) {
            RunsTest one = new RunsTest(pair);
            RunsTest other = new RunsTest(pair + 1);
            while (one.calls < CALLS || other.calls < CALLS) {
                one.some();
                other.some();
            }
        }
        Due.end("RunsTest");
    }

    private void some() {
        int way = random.nextInt(20);
        if (way < 3) {
            tell(text());
            if (random.nextInt(4) > 0) {
                call("town", 0, 0, 0, 0);
            }
        } else if (way < 5) {
            ask("row", lastOfRow ^ 1 << random.nextInt(Math.max(1, model.streets())));
        } else if (way < 9) {
            any(OFTEN[random.nextInt(OFTEN.length)]);
        } else {
            any(Model.CALLS[random.nextInt(Model.CALLS.length)]);
        }
    }

    private void ask(String name, int a) {
        lastOfRow = a;
        call(name, a, 0, 0, 0);
    }

    private void tell(String text) {
        for (int i = 0; i < text.length(); i++) {
            call("letter", text.charAt(i), 0, 0, 0);
        }
    }

    private String text() {
        StringBuilder text = new StringBuilder();
        for (int statements = 1 + random.nextInt(3); statements > 0; statements--) {
            text.append(random.nextBoolean() ? street() : plot());
        }
        if (random.nextInt(6) == 0) {
            text.setCharAt(random.nextInt(text.length()), sign());
        }
        if (random.nextInt(8) == 0) {
            text.setLength(random.nextInt(text.length()));
        }
        return text.toString();
    }

    private char sign() {
        return random.nextInt(5) == 0 ? (char) random.nextInt(256) : SIGNS.charAt(random.nextInt(SIGNS.length()));
    }

    private String street() {
        int c = random.nextInt(3) == 0 ? 0 : one(mostAb == 9 ? 99 : 6);
        return "s" + "pldgtn".charAt(random.nextInt(6)) + Due.number(one(mostAb)) + Due.number(one(mostAb)) + padded(c) + ";";
    }

    private String plot() {
        int far = random.nextInt(3) == 0 ? 21 : 5;
        return "p" + padded(one(far)) + padded(one(far)) + ";";
    }

    private String padded(int number) {
        String told = Due.number(number);
        return told.length() == 2 && random.nextInt(3) == 0 ? told.charAt(0) + "0" + told.charAt(1) : told;
    }

    private int one(int most) {
        return random.nextInt(2 * most + 1) - most;
    }

    private void any(String name) {
        switch (name) {
            case "letter": call(name, random.nextInt(8) == 0 ? one(400) : sign(), 0, 0, 0); break;
            case "street":
            case "taken": call(name, number(model.streets()), number(5), 0, 0); break;
            case "crossing": call(name, number(model.streets()), number(model.streets()), number(4), 0); break;
            case "plot":
            case "fear":
            case "where":
            case "together": call(name, number(model.plots()), number(2), 0, 0); break;
            case "steps": call(name, number(model.plots()), number(model.plots()), 0, 0); break;
            case "corners":
            case "sides":
            case "isOpen": call(name, number(1 << model.streets()), 0, 0, 0); break;
            case "with": call(name, number(random.nextBoolean() ? 5 : 13), 0, 0, 0); break;
            case "points": call(name, number(3), 0, 0, 0); break;
            case "next": call(name, ab(), ab(), c(), random.nextInt(3) == 0 ? -1 : number(model.plots())); break;
            case "through": call(name, ab(), ab(), number(model.plots()), 0); break;
            case "spare":
            case "most": call(name, ab(), ab(), 0, 0); break;
            case "row": ask(name, number(random.nextBoolean() ? 64 : 1 << model.streets())); break;
            case "seeds": call(name, 1 + number(30), random.nextInt(), 0, 0); break;
            case "count": call(name, random.nextBoolean() ? number(4) : 10 + number(8), 0, 0, 0); break;
            default: call(name, 0, 0, 0, 0); break;
        }
    }

    // Mostly below so many, now and then just outside or far off.
    private int number(int many) {
        int way = random.nextInt(24);
        if (way < 3) {
            return new int[] {-1, many, random.nextInt()}[way];
        }
        return random.nextInt(Math.max(1, many));
    }

    private int ab() {
        return random.nextInt(20) == 0 ? one(11) : one(random.nextBoolean() ? mostAb : 9);
    }

    private int c() {
        return random.nextInt(12) == 0 ? one(110) : one(random.nextBoolean() ? 5 : 99);
    }

    private void call(String name, int a, int b, int c, int d) {
        if (calls < CALLS) {
            calls++;
            String told = "run " + run + ", call " + calls + ": " + name + " of " + a + " " + b + " " + c + " " + d;
            Due.is(told, model.call(name, a, b, c, d), answer(name, a, b, c, d));
        }
    }

    private long answer(String name, int a, int b, int c, int d) {
        return StormTest.call(program, java.util.Arrays.asList(Model.CALLS).indexOf(name), a, b, c, d);
    }
}
