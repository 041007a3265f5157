/** Promises 7 to 13: quarters, open, with, corners, sides, isOpen, whole. */
public final class QuartersTest {
    public static void main(String[] args) {
        none();
        one();
        triangle();
        square();
        pentagon();
        six();
        refused();
        Due.end("QuartersTest");
    }

    private static void none() {
        CrossesAllOld x = new CrossesAllOld();
        sums(x, 1, 1, 1);
        with(x, 1);
        quarter(x, 0, 0, 0, 1);
    }

    private static void one() {
        CrossesAllOld x = Due.with("sp+1+0+5;");
        sums(x, 2, 2, 2);
        with(x, 2);
        quarter(x, 0, 0, 1, 1);
        quarter(x, 1, 0, 1, 1);
    }

    // x 0, y 0, x + y 4: the closed one is right of x 0, above y 0, below the third: 1 and 2.
    private static void triangle() {
        CrossesAllOld x = Due.with("sp+1+0+0;sp+0+1+0;sp+1+1+4;");
        sums(x, 7, 6, 4);
        with(x, 0, 3, 3, 1);
        quarter(x, 3, 3, 3, 0);
        quarter(x, 7, 2, 3, 1);
        quarter(x, 1, 2, 3, 1);
        quarter(x, 2, 2, 3, 1);
        quarter(x, 0, 1, 2, 1);
        quarter(x, 5, 1, 2, 1);
        quarter(x, 6, 1, 2, 1);
        Due.is("no quarter 4: isOpen(4)", -1, x.isOpen(4));
        Due.is("corners(4)", -1, x.corners(4));
        Due.is("sides(4)", -1, x.sides(4));
    }

    // Three at one point: six quarters, none closed; each lies at two streets alone.
    private static void square() {
        CrossesAllOld x = Due.with("sp+1+0+0;sp+0+1+0;sp+1-1+0;");
        sums(x, 6, 6, 0);
        with(x, 0, 6);
        for (int number : new int[] {0, 2, 3, 4, 5, 7}) {
            quarter(x, number, 1, 2, 1);
        }
        quarter(x, 1, -1, -1, -1);
        quarter(x, 6, -1, -1, -1);
    }

    // Above y 0 and below two slopes on either hand, a steep one and a flat one: five sides.
    private static void pentagon() {
        CrossesAllOld x = Due.with("sp+0+1+0;sp+1+1+8;sp-1+1+8;sp+3+1+15;sp-3+1+15;");
        sums(x, 16, 10, 1);
        quarter(x, 1, 5, 5, 0);
    }

    private static void six() {
        // Three pairs of like slopes round 0, 0: six sides, above the first of each pair, below the other.
        CrossesAllOld hexagon = Due.with("sp+1+0-9;sp+9+1+80;sp+0+1-9;sp+1+9+80;sp+1-1-9;sp+9-8+80;");
        quarter(hexagon, 1 + 4 + 16, 6, 6, 0);
        Due.is("one whole", 1, hexagon.whole());
        Due.holds("with(6)", hexagon.with(6) == 1);
        CrossesAllOld x = Due.with("sp+1+0+0;sp+0+1+0;sp+1+1+1;sp+1-1+3;sp+2+1+7;sp+1+2-9;");
        Due.is("quarters of six", 22, x.quarters());
        Due.is("open of six", 12, x.open());
        int sum = 0;
        for (int corners = 0; corners <= 12; corners++) {
            sum += x.with(corners);
        }
        Due.is("each has its corners", 22, sum);
        CrossesAllOld star = Due.with("sp+1+0+0;sp+0+1+0;sp+1+1+0;sp+1-1+0;sp+1+2+0;sp+2+1+0;");
        sums(star, 12, 12, 0);
        with(star, 0, 12);
        for (int quarter = 0; quarter < 64; quarter++) {
            if (star.corners(quarter) != -1) {
                quarter(star, quarter, 1, 2, 1);
            }
        }
    }

    private static void refused() {
        CrossesAllOld x = Due.with("sp+1+0+0;sp+0+1+0;");
        int[] bad = {-1, 4, 63, 64, 65, 128, -64, Integer.MIN_VALUE, Integer.MAX_VALUE};
        for (int number : bad) {
            Due.is("corners(" + number + ")", -1, x.corners(number));
            Due.is("sides(" + number + ")", -1, x.sides(number));
            Due.is("isOpen(" + number + ")", -1, x.isOpen(number));
        }
        Due.refusals(x, "after -1", 3 * bad.length);
        Due.is("with(-1)", -4, x.with(-1));
        Due.is("with(least)", -4, x.with(Integer.MIN_VALUE));
        Due.is("with(13)", -6, x.with(13));
        Due.is("with(12)", 0, x.with(12));
        Due.refusals(x, "after with", 3 * bad.length, 0, 0, 2, 0, 1);
    }

    private static void sums(CrossesAllOld x, int quarters, int open, int whole) {
        String of = " of " + x.count(0) + " streets";
        Due.is("quarters()" + of, quarters, x.quarters());
        Due.is("open()" + of, open, x.open());
        Due.is("whole()" + of, whole, x.whole());
    }

    private static void with(CrossesAllOld x, int... due) {
        for (int corners = 0; corners <= 12; corners++) {
            Due.is("with(" + corners + ")", corners < due.length ? due[corners] : 0, x.with(corners));
        }
    }

    private static void quarter(CrossesAllOld x, int number, int corners, int sides, int open) {
        Due.is("corners(" + number + ")", corners, x.corners(number));
        Due.is("sides(" + number + ")", sides, x.sides(number));
        Due.is("isOpen(" + number + ")", open, x.isOpen(number));
    }
}
