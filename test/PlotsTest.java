/** Promises 16 to 18: where, together, steps. */
public final class PlotsTest {
    // The triangle x 0, y 0, x + y 4 (its inside is 3) and eight plots.
    private static final String TRIANGLE = "sp+1+0+0;sl+0+1+0;sd+1+1+4;";
    private static final String PLOTS = "p+1+1;p+1+2;p+0+1;p+9+9;p-1-1;p+4+0;p-3+1;p+2+1;";
    private static final int[] WHERE = {3, 3, -9, 7, 0, -9, 2, 3};

    public static void main(String[] args) {
        where();
        together();
        steps();
        onEdgesOfThePlain();
        refused();
        Due.end("PlotsTest");
    }

    private static void where() {
        CrossesAllOld x = Due.with(TRIANGLE);
        Due.is("the plots", 8, Due.town(x, PLOTS));
        for (int p = 0; p < 8; p++) {
            Due.is("where(" + p + ")", WHERE[p], x.where(p));
        }
        CrossesAllOld bare = Due.with("p+3-3;");
        Due.is("without a street", 0, bare.where(0));
        Due.town(bare, "sp-1+0-3;");
        Due.is("on the street that came", -9, bare.where(0));
        CrossesAllOld turned = Due.with("sp-1+0-3;p+2+0;p+4+0;");
        Due.is("-x is more than -3", 1, turned.where(0));
        Due.is("-x is less than -3", 0, turned.where(1));
        CrossesAllOld six = Due.with("sp+1+0-9;sp+0+1-9;sp+1+1-9;sp+1-1-9;sp+1+2-9;sp+2+1-9;p+0+0;");
        Due.is("above all six", 63, six.where(0));
    }

    private static void together() {
        CrossesAllOld x = Due.with(TRIANGLE);
        Due.town(x, PLOTS);
        for (int p = 0; p < 8; p++) {
            int bits = 0;
            for (int q = 0; q < 8; q++) {
                bits |= WHERE[p] != -9 && WHERE[q] == WHERE[p] ? 1 << q : 0;
            }
            Due.is("together(" + p + ")", bits, x.together(p));
        }
        Due.is("three of them", 1 + 2 + 128, x.together(0));
        Due.is("on a street", 0, x.together(2));
        Due.is("alone", 8, x.together(3));
        CrossesAllOld bare = Due.with("p+1+1;p+1+1;p+0+0;p+0+0;p+0+0;p+0+0;p+0+0;p+0+0;");
        Due.is("all eight", 255, bare.together(7));
    }

    private static void steps() {
        CrossesAllOld x = Due.with(TRIANGLE);
        Due.town(x, PLOTS);
        for (int p = 0; p < 8; p++) {
            for (int q = 0; q < 8; q++) {
                int due = WHERE[p] == -9 || WHERE[q] == -9 ? -9 : Integer.bitCount(WHERE[p] ^ WHERE[q]);
                Due.is("steps(" + p + ", " + q + ")", due, x.steps(p, q));
            }
        }
        Due.is("in one quarter", 0, x.steps(0, 7));
        Due.is("itself", 0, x.steps(3, 3));
        Due.is("over one", 1, x.steps(0, 3));
        Due.is("over all", 3, x.steps(3, 4));
        // Through the square itself it would be fewer.
        CrossesAllOld square = Due.with("sp+1+0+0;sp+0+1+0;sp+1+1+0;sp+1-1+0;p+1+3;p-1-3;");
        Due.is("through no point", 4, square.steps(0, 1));
    }

    private static void onEdgesOfThePlain() {
        CrossesAllOld x = Due.with("sp+9+9-99;p-20-20;p+20+20;");
        Due.is("far below", 0, x.where(0));
        Due.is("far above", 1, x.where(1));
        Due.is("steps", 1, x.steps(0, 1));
    }

    private static void refused() {
        CrossesAllOld x = Due.with("p+1+1;sp+1+0+1;");
        for (int bad : new int[] {-1, 1, 8, Integer.MIN_VALUE, Integer.MAX_VALUE}) {
            Due.is("where(" + bad + ")", -1, x.where(bad));
            Due.is("together(" + bad + ")", -1, x.together(bad));
            Due.is("steps(" + bad + ", 0)", -1, x.steps(bad, 0));
            Due.is("steps(0, " + bad + ")", -1, x.steps(0, bad));
        }
        Due.refusals(x, "after -1", 20);
    }
}
