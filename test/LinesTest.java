/** Promises 19 to 24: next, through, spare, most, fear, taken. */
public final class LinesTest {
    private static final String TRIANGLE = "sp+1+0+0;sl+0+1+0;sd+1+1+4;";
    private static final int FAR = 1000000000;

    public static void main(String[] args) {
        next();
        nextRefused();
        through();
        throughRefused();
        spare();
        spareRefused();
        most();
        mostRefused();
        fear();
        taken();
        Due.end("LinesTest");
    }

    private static void next() {
        CrossesAllOld x = Due.with(TRIANGLE + "p+1+2;p+5+5;p+0+3;");
        Due.is("apart from all points", 4, x.next(1, -1, 1, -1));
        Due.is("through one point", 3, x.next(1, -1, 0, -1));
        Due.is("through another point", 3, x.next(1, 2, 4, -1));
        Due.is("at the triangle's tip alone", 3, x.next(1, -1, 4, -1));
        Due.is("it cuts the triangle", 1, x.next(1, -1, 1, 0));
        Due.is("it cuts the triangle by the plot", 1, x.next(1, -1, -1, 0));
        Due.is("its tip is not cut", 0, x.next(1, -1, 4, 0));
        Due.is("far off", 0, x.next(1, -1, 99, 0));
        Due.is("the open one", 1, x.next(1, -1, 99, 1));
        Due.is("another open one", 0, x.next(1, 9, 3, 1));
        Due.is("on a street", -9, x.next(1, -1, 1, 2));
        Due.is("numbers' ends", 4, x.next(9, -9, 99, -1));
        Due.is("numbers' other ends", 4, x.next(-9, 8, -99, -1));
        CrossesAllOld six = Due.with("sp+1+0+0;sp+0+1+0;sp+1+1+0;sp+1-1+0;sp+1+2+0;sp+2+1+0;");
        Due.is("six, and no room for a seventh", 7, six.next(3, 1, 1, -1));
        Due.is("through the square of six", 2, six.next(3, 1, 0, -1));
        Due.is("no street", 1, new CrossesAllOld().next(0, 1, 0, -1));
        Due.is("one street", 2, Due.with("sp+1+0+0;").next(0, 1, 0, -1));
    }

    private static void nextRefused() {
        CrossesAllOld x = Due.with("sp+2-3+1;p+1+1;");
        Due.is("-1 ahead of -4", -1, x.next(-10, 0, 0, 1));
        Due.is("plot -2", -1, x.next(1, 1, 1, -2));
        Due.is("plot 8", -1, x.next(1, 1, 1, 8));
        Due.refusals(x, "after -1", 3);
        Due.is("a below", -4, x.next(-10, 10, 100, -1));
        Due.is("b below", -4, x.next(10, -10, 100, 0));
        Due.is("c below", -4, x.next(10, 10, -100, 0));
        Due.is("c below, 0 and 0", -4, x.next(0, 0, -100, 0));
        Due.refusals(x, "after -4", 3, 0, 0, 4);
        Due.is("a above", -6, x.next(10, 1, 1, 0));
        Due.is("b above", -6, x.next(0, 10, 1, 0));
        Due.is("c above", -6, x.next(0, 0, 100, 0));
        Due.is("c above, a direction that there is", -6, x.next(2, -3, 100, 0));
        Due.refusals(x, "after -6", 3, 0, 0, 4, 0, 4);
        Due.is("0 and 0", -3, x.next(0, 0, 1, 0));
        Due.is("a direction that there is", -3, x.next(2, -3, 1, 0));
        Due.is("the other way", -3, x.next(-4, 6, 99, -1));
        Due.is("just beside it", 2, x.next(4, 6, 99, -1));
        Due.is("farthest", -4, x.next(Integer.MIN_VALUE, Integer.MAX_VALUE, 0, -1));
        Due.is("farthest above", -6, x.next(Integer.MAX_VALUE, Integer.MAX_VALUE, Integer.MAX_VALUE, -1));
        Due.refusals(x, "after -3", 3, 0, 3, 5, 0, 5);
    }

    private static void through() {
        CrossesAllOld x = Due.with("sp+1+2+3;p+3-4;p-20-20;p+20+20;");
        Due.is("through(2, 1, 0)", 2, x.through(2, 1, 0));
        Due.is("through(9, 9, 1)", -360, x.through(9, 9, 1));
        Due.is("through(9, 9, 2)", 360, x.through(9, 9, 2));
        Due.is("through(-9, 0, 0)", -27, x.through(-9, 0, 0));
        Due.is("through(0, -9, 0)", 36, x.through(0, -9, 0));
        Due.is("a direction that there is", -5, x.through(1, 2, 0));
    }

    private static void throughRefused() {
        CrossesAllOld x = Due.with("p+1+1;");
        Due.is("no plot", FAR + 1, x.through(1, 1, 1));
        Due.is("plot -1", FAR + 1, x.through(1, 1, -1));
        Due.is("-1 ahead of all", FAR + 1, x.through(-10, 10, 1));
        Due.is("below", FAR + 4, x.through(-10, 10, 0));
        Due.is("b below", FAR + 4, x.through(10, -10, 0));
        Due.is("above", FAR + 6, x.through(10, 0, 0));
        Due.is("b above", FAR + 6, x.through(0, 10, 0));
        Due.is("0 and 0", FAR + 3, x.through(0, 0, 0));
        Due.refusals(x, "after through", 3, 0, 1, 2, 0, 2);
    }

    private static void spare() {
        CrossesAllOld x = Due.with(TRIANGLE);
        Due.is("no plots", -99, x.spare(1, -1));
        Due.town(x, "p+1+1;");
        Due.is("a far line", -99, x.spare(1, -1));
        // Quarter 2 is left of x 0, above y 0, below the third: all x - y below 0 cut it.
        Due.town(x, "p-2+1;");
        Due.is("left of the triangle", 4, x.spare(1, -1));
        Due.is("turned", -99, x.spare(-1, 1));
        Due.town(x, "p+2-1;");
        Due.is("right of it, too", -999, x.spare(1, -1));
        Due.is("all of them lie there", -999, x.spare(5, -5));
        // Plots on streets lie in no quarter, but a line must not go through them.
        CrossesAllOld on = Due.with("sp+1+0+0;p+0-9;p+0-8;");
        Due.is("-9 and -8 are taken", -99, on.spare(0, 1));
        Due.is("-9 x 9 and less", -99, on.spare(0, 9));
        CrossesAllOld edge = Due.with("sp+0+1+0;p-11+0;p-10+0;");
        Due.is("through the first plot", -98, edge.spare(9, 0));
        Due.is("in a half plain none is spared", -999, Due.with("p+1+1;").spare(1, 0));
        // Up to its last C: all C up to 98 cut the quarter above the two streets or go through a plot.
        CrossesAllOld last = Due.with("sp+9+1+99;sp+9-1+99;p+0+0;");
        Due.is("C 99 alone goes through the tip", 99, last.spare(9, 0));
        CrossesAllOld none = Due.with("sp+9+1+99;sp+9-1+99;p+0+0;p+11+0;");
        Due.is("a plot at the tip", -999, none.spare(9, 0));
    }

    private static void spareRefused() {
        CrossesAllOld x = Due.with("sp+1+2+3;");
        Due.is("below", FAR + 4, x.spare(-10, 10));
        Due.is("b below", FAR + 4, x.spare(10, -10));
        Due.is("above", FAR + 6, x.spare(10, 0));
        Due.is("b above", FAR + 6, x.spare(0, 10));
        Due.is("0 and 0", FAR + 3, x.spare(0, 0));
        Due.is("a direction that there is", FAR + 3, x.spare(-3, -6));
        Due.refusals(x, "after spare", 0, 0, 2, 2, 0, 2);
    }

    private static void most() {
        Due.is("no points", 0, new CrossesAllOld().most(1, 0));
        Due.is("one street", 0, Due.with("sp+1+0+0;").most(0, 1));
        CrossesAllOld x = Due.with(TRIANGLE);
        Due.is("one point each", 1, x.most(1, -1));
        // Two pairs of streets, each the other's image in x - y 0: one pair meets at 0, 0, one at 4, 4.
        CrossesAllOld four = Due.with("sp+1+2+0;sp+2+1+0;sp+1+3+16;sp+3+1+16;");
        Due.is("two points on one line", 2, four.most(1, -1));
        CrossesAllOld star = Due.with("sp+1+0+0;sp+0+1+0;sp+1+1+0;sp+1-1+0;sp+1+2+0;sp+2+1+0;");
        Due.is("a square is one point", 1, star.most(3, 1));
        // The one point is 1/4, 1/4; C is a whole number.
        CrossesAllOld quarter = Due.with("sp+2+2+1;sp+2-2+0;");
        Due.is("1/4, 1/4 by x", 0, quarter.most(1, 0));
        Due.is("1/4, 1/4 by 4 x", 1, quarter.most(4, 0));
        Due.is("1/4, 1/4 by x + 3 y", 1, quarter.most(1, 3));
        // The point 11, 0: at 9 x it is at C 99; 12, 0 is beyond.
        Due.is("C 99", 1, Due.with("sp+1+1+11;sp+1-1+11;").most(9, 0));
        Due.is("C -99", 1, Due.with("sp+1+1-11;sp+1-1-11;").most(9, 0));
        Due.is("C 108", 0, Due.with("sp+1+1+12;sp+1-1+12;").most(9, 0));
        Due.is("C -108", 0, Due.with("sp+1+1-12;sp+1-1-12;").most(9, 0));
    }

    private static void mostRefused() {
        CrossesAllOld x = Due.with("sp+1+2+3;");
        Due.is("below", -4, x.most(-10, 10));
        Due.is("b below", -4, x.most(10, -10));
        Due.is("above", -6, x.most(10, 0));
        Due.is("b above", -6, x.most(0, 10));
        Due.is("0 and 0", -3, x.most(0, 0));
        Due.is("a direction that there is", -3, x.most(4, 8));
        Due.refusals(x, "after most", 0, 0, 2, 2, 0, 2);
    }

    private static void fear() {
        CrossesAllOld x = Due.with("p+0+0;p+20+20;");
        Due.is("all lines", 266, x.fear(0, 1));
        Due.is("all cut", 266, x.fear(1, 0));
        // Lines of the street's own direction are not asked; all others cut a half plain.
        Due.town(x, "sp+1+0+5;");
        Due.is("lines", 228, x.fear(0, 1));
        Due.is("a half plain", 228, x.fear(0, 0));
        // x below 5, y below 5: x - y never spares it; x + y is cut below 10, 2 x + y below 15, and so on: all.
        Due.town(x, "sp+0+1+5;");
        Due.is("lines of eight directions", 152, x.fear(0, 1));
        Due.is("a corner that all cut", 152, x.fear(0, 0));
        // Beyond x 5, y 5: x + y is above 10, 2 x + y and x + 2 y above 15: 19 of each spare it, so do 2 x + 2 y.
        Due.is("the corner beyond", 152 - 4 * 19, x.fear(1, 0));
        Due.town(x, "p+5+7;");
        Due.is("on a street", -9, x.fear(2, 0));
        Due.is("lines for one on a street", 152, x.fear(2, 1));
        for (int bad : new int[] {-1, 3, 8}) {
            Due.is("fear(" + bad + ", 0)", -1, x.fear(bad, 0));
            Due.is("fear(" + bad + ", 2)", -1, x.fear(bad, 2));
        }
        Due.is("fear(0, 2)", -2, x.fear(0, 2));
        Due.is("fear(0, -1)", -2, x.fear(0, -1));
        Due.is("fear(2, 2)", -2, x.fear(2, 2));
        Due.refusals(x, "after fear", 6, 3);
    }

    private static void taken() {
        CrossesAllOld x = new CrossesAllOld();
        Due.is("no street", -9, x.taken(-1));
        Due.is("no street 0", -1, x.taken(0));
        Due.town(x, "sp+1+0+0;");
        Due.is("one street", 1, x.taken(0));
        Due.is("the one", 0, x.taken(-1));
        Due.town(x, "sp+0+1+0;");
        Due.is("the first of two", 2, x.taken(0));
        Due.is("the second of two", 2, x.taken(1));
        Due.is("the first, of several", 0, x.taken(-1));
        // 0, 1, 2 meet at 0, 0; 3 meets all apart: 10 quarters; without 3 six, without another seven.
        Due.town(x, "sp+1-1+0;sp+1+1+4;");
        Due.is("ten", 10, x.quarters());
        for (int s = 0; s < 3; s++) {
            Due.is("taken(" + s + ")", 7, x.taken(s));
        }
        Due.is("taken(3)", 6, x.taken(3));
        Due.is("most are lost by the last", 3, x.taken(-1));
        Due.is("nothing is taken up", 10, x.quarters());
        for (int bad : new int[] {-2, 4, 6, Integer.MIN_VALUE, Integer.MAX_VALUE}) {
            Due.is("taken(" + bad + ")", -1, x.taken(bad));
        }
        Due.refusals(x, "after taken", 6);
    }
}
