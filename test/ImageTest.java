/** Promises 28 to 30: image, on, count. */
public final class ImageTest {
    public static void main(String[] args) {
        imageAndOn();
        leavesTheRest();
        imageOfNothing();
        counts();
        Due.end("ImageTest");
    }

    private static void imageAndOn() {
        CrossesAllOld x = Due.with("sp+1+0+0;sg+0+1+0;st+1-1+0;p+3+2;p+0+1;");
        long before = answers(x);
        Due.is("image()", 3, x.image());
        Due.is("the image changes nothing", before, answers(x));
        Due.town(x, "sn+1+1+4;p+9+9;p+1+1;");
        Due.is("four streets", 4, x.count(0));
        Due.holds("another plain", answers(x) != before);
        Due.is("on()", 3, x.on());
        Due.is("all is as then", before, answers(x));
        Due.is("plots as then", 2, x.count(1));
        Due.is("no plot 2", -1, x.where(2));
        Due.is("no street 3", -1, x.taken(3));
        Due.is("the direction is free again", 1, Due.town(x, "sp+1+1+4;"));
        Due.is("on() again", 3, x.on());
        Due.is("all is as then again", before, answers(x));
        Due.town(x, "sd+1+2-7;p-9-9;");
        long later = answers(x);
        Due.is("a new image()", 4, x.image());
        Due.town(x, "sd+1+3-7;p-9-8;");
        Due.is("on() from the new one", 4, x.on());
        Due.is("as at the new one", later, answers(x));
    }

    private static void leavesTheRest() {
        CrossesAllOld x = Due.with("sp+1+0+0;");
        x.row(0);
        x.letter('p');
        x.with(-1);
        x.image();
        x.row(1);
        x.letter('+');
        x.with(-1);
        x.with(13);
        Due.is("on()", 1, x.on());
        Due.is("the row stays", 2, x.count(2));
        Due.is("letters stay", 2, x.count(3));
        Due.refusals(x, "stay", 0, 0, 0, 2, 0, 1);
        Due.tell(x, "1+1;");
        Due.is("the letters go on", 1, x.town());
        Due.is("the row is judged", -9, x.judge());
    }

    private static void imageOfNothing() {
        CrossesAllOld x = new CrossesAllOld();
        Due.is("no image", -3, x.on());
        Due.is("an empty one", 0, x.image());
        Due.town(x, "sp+1+0+0;sp+0+1+0;p+1+1;");
        Due.is("on() from it", 0, x.on());
        Due.is("no streets", 0, x.count(0));
        Due.is("no plots", 0, x.count(1));
        Due.is("one quarter", 1, x.quarters());
        Due.is("one open", 1, x.open());
        Due.is("no points", 0, x.points(0));
        Due.refusals(x, "after on", 0, 0, 1);
        CrossesAllOld full = Due.with("sp+1+0+0;sp+0+1+0;sp+1+1+1;sp+1-1+3;sp+2+1+7;sp+1+2-9;");
        Due.town(full, "p+1+1;p+2+2;p+3+3;p+4+4;p-1-1;p-2-2;p-3-3;p-4-4;");
        long before = answers(full);
        Due.is("a full one", 6, full.image());
        Due.is("on() from it", 6, full.on());
        Due.is("as it was", before, answers(full));
    }

    private static void counts() {
        CrossesAllOld x = Due.with("sp+1+0+0;sp+0+1+0;p+1+1;");
        x.row(5);
        x.row(6);
        x.row(7);
        Due.tell(x, "abcd");
        Due.is("streets", 2, x.count(0));
        Due.is("plots", 1, x.count(1));
        Due.is("in the row", 3, x.count(2));
        Due.is("letters", 4, x.count(3));
        for (int what : new int[] {-1, 4, 5, 9, 10, 17, 18, 100, -11, Integer.MIN_VALUE, Integer.MAX_VALUE}) {
            Due.is("count(" + what + ")", -9, x.count(what));
        }
        Due.refusals(x, "none yet");
        x.where(9);
        x.points(9);
        x.points(9);
        x.on();
        x.on();
        x.on();
        for (int i = 0; i < 4; i++) {
            x.letter(-1);
        }
        for (int i = 0; i < 5; i++) {
            x.row(64);
        }
        Due.refusals(x, "each its own", 1, 2, 3, 4, 0, 5);
        x.street(9, 9);
        x.street(0, 9);
        x.spare(0, 0);
        x.spare(-10, 0);
        x.spare(10, 0);
        Due.refusals(x, "told as 1000000000 less them", 2, 3, 4, 5, 0, 6);
        x.judge();
        x.town();
        x.count(-1);
        Due.refusals(x, "-9 and faults are not counted", 2, 3, 4, 5, 0, 6);
    }

    /** All that can be asked without a change, as one number. */
    static long answers(CrossesAllOld x) {
        long sum = 7;
        for (int one = 0; one < x.count(0); one++) {
            for (int what = 0; what < 5; what++) {
                sum = sum * 31 + x.street(one, what);
            }
            sum = sum * 31 + x.taken(one);
            for (int other = 0; other < one; other++) {
                for (int what = 0; what < 4; what++) {
                    sum = sum * 31 + x.crossing(one, other, what);
                }
            }
        }
        for (int plot = 0; plot < x.count(1); plot++) {
            int[] answers = {x.plot(plot, 0), x.plot(plot, 1), x.where(plot), x.together(plot), x.steps(0, plot),
                x.fear(plot, 0), x.fear(plot, 1), x.through(3, 5, plot), plot};
            for (int answer : answers) {
                sum = sum * 31 + answer;
            }
        }
        int[] answers = {x.count(0), x.count(1), x.quarters(), x.open(), x.with(0), x.with(1), x.with(2), x.with(3), x.with(4),
            x.whole(), x.points(0), x.points(1), x.points(2), x.lamps(), x.taken(-1), x.seeds(30, 5)};
        for (int answer : answers) {
            sum = sum * 31 + answer;
        }
        return sum;
    }
}
