/** Promises 25 to 27: row, judge, seeds. */
public final class RowTest {
    public static void main(String[] args) {
        row();
        judge();
        judgeAtASquare();
        seeds();
        Due.end("RowTest");
    }

    private static void row() {
        CrossesAllOld x = new CrossesAllOld();
        Due.is("row(-1)", -4, x.row(-1));
        Due.is("row(64)", -6, x.row(64));
        Due.is("row(least)", -4, x.row(Integer.MIN_VALUE));
        Due.is("row(most)", -6, x.row(Integer.MAX_VALUE));
        Due.is("empty", 0, x.count(2));
        for (int i = 1; i <= 12; i++) {
            Due.is("row " + i, i, x.row(i == 1 ? 63 : 0));
        }
        Due.is("row 13", -6, x.row(0));
        Due.is("row 13 below", -4, x.row(-1));
        Due.is("row 13 above", -6, x.row(64));
        Due.is("twelve", 12, x.count(2));
        Due.refusals(x, "after row", 0, 0, 0, 3, 0, 4);
        Due.is("no quarter 63", 0, x.judge());
        Due.is("none in the row", 0, x.count(2));
        Due.is("room again", 1, x.row(0));
    }

    private static void judge() {
        CrossesAllOld x = Due.with("sp+1+0+0;sp+0+1+0;sp+1+1+4;");
        judge(x, -9);
        judge(x, -9, 0);
        judge(x, 0, 4);
        judge(x, 0, 8);
        judge(x, -9, 0, 1, 3, 7, 6, 2, 0);
        judge(x, 1, 0, 0);
        judge(x, 1, 0, 3);
        judge(x, 2, 6, 2, 5, 4);
        judge(x, 1, 0, 4);
        judge(x, 2, 0, 1, 9);
        judge(x, 11, 0, 1, 0, 1, 0, 1, 0, 1, 0, 1, 0, 3);
        judge(x, -9, 0, 1, 0, 1, 0, 1, 0, 1, 0, 1, 0, 1);
        Due.refusals(x, "after judge");
    }

    // Beside 2 across the square lies 5: over three streets at once is not over one.
    private static void judgeAtASquare() {
        CrossesAllOld x = Due.with("sp+1+0+0;sp+0+1+0;sp+1-1+0;");
        judge(x, 1, 2, 5);
        judge(x, -9, 2, 0, 4, 5, 7, 3, 2);
        judge(x, 1, 0, 1);
        judge(x, 1, 7, 6);
    }

    private static void judge(CrossesAllOld x, int due, int... row) {
        StringBuilder told = new StringBuilder();
        for (int i = 0; i < row.length; i++) {
            Due.is("row", i + 1, x.row(row[i]));
            told.append(' ').append(row[i]);
        }
        Due.is("judge() of" + told, due, x.judge());
        Due.is("the row behind" + told, 0, x.count(2));
    }

    private static void seeds() {
        CrossesAllOld x = Due.with("sp+1+0+0;sp+0+1+0;sp+1+1+4;sp+1-1+3;p+1+1;");
        for (int z : new int[] {0, 1, -1, 7, 12345, Integer.MIN_VALUE, Integer.MAX_VALUE, -987654321}) {
            for (int n = 1; n <= 30; n++) {
                Due.is("seeds(" + n + ", " + z + ")", drawn(x, n, z), x.seeds(n, z));
            }
        }
        Due.is("its plots are no town's", 1, x.count(1));
        Due.is("seeds(0, 1)", -4, x.seeds(0, 1));
        Due.is("seeds(least, 1)", -4, x.seeds(Integer.MIN_VALUE, 1));
        Due.is("seeds(31, 1)", -6, x.seeds(31, 1));
        Due.is("seeds(most, 1)", -6, x.seeds(Integer.MAX_VALUE, 1));
        Due.refusals(x, "after seeds", 0, 0, 0, 2, 0, 2);
        Due.is("a bare plain", 1, new CrossesAllOld().seeds(30, 5));
    }

    // The plots are told as plots of another object with the same streets, and asked where they lie.
    private static int drawn(CrossesAllOld x, int n, int z) {
        java.util.Set<Integer> found = new java.util.HashSet<>();
        long seed = z;
        for (int i = 0; i < n; i++) {
            int[] xy = new int[2];
            for (int j = 0; j < 2; j++) {
                seed = (int) (seed * 1664525L + 1013904223L);
                xy[j] = (int) ((seed & 0x7fffffffL) / 256 % 41) - 20;
            }
            CrossesAllOld other = Due.with("sp+1+0+0;sp+0+1+0;sp+1+1+4;sp+1-1+3;p" + Due.number(xy[0]) + Due.number(xy[1]) + ";");
            if (other.where(0) != -9) {
                found.add(other.where(0));
            }
        }
        return found.size();
    }
}
