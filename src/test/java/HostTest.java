/** Promises 23 to 33: judge, image, undo, act, trace, taken, count, tape, item, read, shift. */
public final class HostTest {
    private static final long NO = Long.MIN_VALUE;

    public static void main(String[] args) {
        judge();
        judgeRefused();
        image();
        imageAndLands();
        acts();
        wrapping();
        noAct();
        taken();
        count();
        tape();
        item();
        read();
        shift();
        Due.end("HostTest");
    }

    private static void judge() {
        TwoOnOneBack x = new TwoOnOneBack();
        x.tape(0, 3, 4);
        Due.is("no walkers", x.judge(0, 0), -5);
        Due.is("no walkers, no place", x.judge(0, -1), -5);
        Due.is("no walkers, nothing", x.judge(1, 99), -5);
        x.walker(0, 0, 0, 0);
        x.walker(0, 0, 14, 1);
        x.walker(0, 0, 35, 1);
        Due.is("walker 1 is elsewhere", x.judge(0, 0), 1);
        x.item(0, 1, 14);
        Due.is("walker 2 is elsewhere", x.judge(0, 0), 2);
        x.item(0, 2, 35);
        Due.is("none", x.judge(0, 0), -5);
        Due.is("from 1 on", x.judge(0, 1), 0);
        x.item(0, 2, 0);
        x.item(0, 3, 14);
        Due.is("the row ends", x.judge(0, 2), 102);
        x.item(0, 3, 0);
        Due.is("the row ends sooner", x.judge(0, 3), 101);
        Due.is("behind the row", x.judge(0, 4), 100);
        Due.is("far behind the row", x.judge(0, Integer.MAX_VALUE), 100);
        Due.is("place -1", x.judge(0, -1), 100);
        Due.is("place MIN", x.judge(0, Integer.MIN_VALUE), 100);
        Due.is("a tape that holds nothing", x.judge(1, 0), 100);
        x.item(0, 0, 1L << 32);
        Due.is("no such cell", x.judge(0, 0), 0);
        x.step(0, 1);
        x.item(0, 0, 1);
        x.item(0, 1, 14);
        x.item(0, 2, 35);
        Due.is("where all are now", x.judge(0, 0), -5);
    }

    private static void judgeRefused() {
        TwoOnOneBack x = new TwoOnOneBack();
        int[] sorts = {0, 1, 2, 4};
        for (int sort : sorts) {
            x.tape(0, sort, 4);
            Due.is("no row of longs, no walkers", x.judge(0, 0), -12);
        }
        x.walker(0, 0, 0, 0);
        Due.is("no row of longs", x.judge(0, -1), -12);
        Due.is("tape 6", x.judge(6, 0), -1);
        Due.is("tape -1", x.judge(-1, 0), -1);
    }

    private static void image() {
        TwoOnOneBack x = new TwoOnOneBack();
        Due.is("no image", x.undo(), -3);
        Due.is("image of none", x.image(), 0);
        x.walker(1, 4, 14, 1);
        Due.is("undo", x.undo(), 0);
        Due.is("no walker any more", x.of(0, 0), -1);
        x.walker(2, 3, 14, 1);
        x.put(0, 14, 1, 6);
        x.step(0, 1);
        x.row(3);
        x.track(4);
        Due.is("image", x.image(), 1);
        int[] want = {2, 3, 15, 1, 1, 14, 1};
        x.step(0, 1);
        x.put(0, 3, 3, 0);
        x.walker(0, 0, 0, 0);
        x.row(-1);
        x.track(7);
        x.feed('o');
        x.tape(0, 0, 1);
        x.act(0, 2, 1);
        int ran = x.count(5);
        Due.is("undo", x.undo(), 1);
        for (int what = 0; what < 7; what++) {
            Due.is("of " + what + " as in the image", x.of(0, what), want[what]);
        }
        Due.is("walkers", x.count(0), 1);
        Due.is("row", x.count(2), 1);
        Due.is("tracks", x.count(3), 1);
        Due.is("the text stays", x.count(4), 1);
        Due.is("the tapes stay", x.read(0, 0), 0);
        Due.is("the trace stays", x.count(5), ran);
        Due.is("a next walker", x.walker(3, 5, 1, 2), 1);
        Due.is("undo again", x.undo(), 1);
        Due.is("only one", x.of(1, 0), -1);
        Due.is("image of now", x.image(), 1);
    }

    private static void imageAndLands() {
        TwoOnOneBack x = new TwoOnOneBack();
        x.walker(0, 0, 14, 1);
        x.put(0, 14, 1, 7);
        x.image();
        Due.is("land 0", Due.land(x, "on 4;back 4;wall i=3"), 0);
        Due.is("beat of 8", x.of(0, 4), 7);
        x.undo();
        Due.is("lands stay", x.count(1), 1);
        Due.is("no land holds", x.told(0), 2);
        Due.is("no wall", x.ground(3, 0), 0);
        Due.is("beat of 3", x.of(0, 4), 1);
        Due.is("land 1", Due.land(x, "on 3;wall i=4"), 1);
        x.image();
        Due.is("land 2", Due.land(x, "on 1;back 4;wall i=5"), 2);
        x.undo();
        Due.is("land 1 holds", x.told(0), 3);
        Due.is("its wall", x.ground(4, 0), 1);
        Due.is("its beat is kept", x.of(0, 4), 3);
        Due.is("land 3", Due.land(x, "on 4;back 4"), 3);
        Due.is("its beat was kept", x.of(0, 4), 7);
    }

    private static void act(TwoOnOneBack x, int walker, int act, int arg, int want, int... bodies) {
        String call = "act(" + walker + ", " + act + ", " + arg + ")";
        Due.is(call, x.act(walker, act, arg), want);
        Due.is(call + " bodies", x.count(5), bodies.length);
        for (int k = 0; k < bodies.length; k++) {
            Due.is(call + " trace " + k, x.trace(k), bodies[k]);
        }
        Due.is(call + " trace behind", x.trace(bodies.length), -1);
        Due.is(call + " trace ahead", x.trace(-1), -1);
    }

    private static TwoOnOneBack ofAllKinds() {
        TwoOnOneBack x = new TwoOnOneBack();
        int[] v = {3, 2, 1, 4, 5, 2};
        for (int kind = 0; kind < 6; kind++) {
            x.walker(kind, v[kind], kind, 0);
        }
        return x;
    }

    private static void acts() {
        TwoOnOneBack x = ofAllKinds();
        act(x, 0, 0, 4, 4, 10);
        act(x, 0, 1, 4, 1, 11, 10);
        act(x, 0, 2, 4, 2, 12, 11, 10);
        act(x, 1, 0, 5, 6, 10);
        act(x, 1, 1, 5, 2, 20, 11, 10);
        act(x, 1, 2, 5, 4, 12, 20, 11, 10);
        act(x, 2, 0, 5, 17, 30, 10);
        act(x, 2, 1, 5, 16, 11, 30, 10);
        act(x, 2, 2, 5, 32, 12, 11, 30, 10);
        act(x, 3, 0, 5, 8, 10);
        act(x, 3, 1, 5, 4, 11, 10);
        act(x, 3, 2, 5, 8, 40, 12, 11, 10, 11, 10);
        act(x, 4, 0, 3, -7, 50, 10);
        act(x, 4, 1, 3, -11, 51, 20, 11, 50, 10);
        act(x, 4, 2, 3, -22, 12, 51, 20, 11, 50, 10);
        act(x, 5, 0, 7, 26, 30, 10);
        act(x, 5, 1, 7, 24, 11, 30, 10);
        act(x, 5, 2, 7, 18, 60, 12, 11, 30, 10);
        TwoOnOneBack y = new TwoOnOneBack();
        y.walker(6, 3, 0, 0);
        act(y, 0, 0, 4, 7, 71, 10);
        act(y, 0, 1, 4, 6, 70, 11, 71, 10, 10);
        act(y, 0, 2, 4, 13, 40, 12, 70, 11, 71, 10, 10, 70, 11, 71, 10, 10);
    }

    private static void wrapping() {
        TwoOnOneBack x = ofAllKinds();
        act(x, 1, 0, Integer.MAX_VALUE, Integer.MIN_VALUE, 10);
        act(x, 2, 0, Integer.MAX_VALUE, Integer.MAX_VALUE, 30, 10);
        act(x, 4, 0, Integer.MAX_VALUE, Integer.MAX_VALUE - 2, 50, 10);
        act(x, 0, 1, Integer.MIN_VALUE, Integer.MAX_VALUE - 2, 11, 10);
    }

    private static void noAct() {
        TwoOnOneBack x = ofAllKinds();
        int[][] wrong = {{6, 0}, {-1, 0}, {0, 3}, {0, -1}};
        for (int[] call : wrong) {
            x.act(0, 2, 1);
            Due.is("a trace", x.count(5), 3);
            act(x, call[0], call[1], 5, 0);
            Due.is("none left", x.trace(0), -1);
        }
        x.act(0, 2, 1);
        x.act(0, 0, 1);
        Due.is("the latest one's only", x.trace(1), -1);
        Due.is("trace(MAX)", x.trace(Integer.MAX_VALUE), -1);
        Due.is("trace(20)", x.trace(20), -1);
    }

    private static void taken() {
        TwoOnOneBack x = ofAllKinds();
        TwoOnOneBack y = new TwoOnOneBack();
        y.walker(6, 0, 0, 0);
        String[] under = {"0", "01", "02", "03", "014", "025", "036"};
        for (int kind = 0; kind < 7; kind++) {
            for (int k = 0; k < 7; k++) {
                int want = under[kind].indexOf('0' + k) >= 0 ? kind : -12;
                Due.is("kind " + kind + " taken for " + k, kind < 6 ? x.taken(kind, k) : y.taken(0, k), want);
            }
        }
        Due.is("k 7", x.taken(9, 7), -2);
        Due.is("k -1", x.taken(0, -1), -2);
        Due.is("no walker", x.taken(6, 0), -11);
        Due.is("walker -1", x.taken(-1, 0), -11);
    }

    private static void count() {
        TwoOnOneBack x = Due.on("on 1");
        x.walker(0, 0, 0, 0);
        x.walker(0, 0, 0, 0);
        x.row(1);
        x.row(1);
        x.row(1);
        for (int n = 0; n < 4; n++) {
            x.track(n);
        }
        for (int n = 0; n < 5; n++) {
            x.feed(n);
        }
        x.act(0, 1, 0);
        int[] want = {2, 1, 3, 4, 5, 2};
        for (int what = 0; what < 6; what++) {
            Due.is("count " + what, x.count(what), want[what]);
        }
        Due.is("count(6)", x.count(6), -2);
        Due.is("count(-1)", x.count(-1), -2);
    }

    private static void tape() {
        TwoOnOneBack x = new TwoOnOneBack();
        for (int sort = 0; sort < 5; sort++) {
            Due.is("tape", x.tape(sort, sort, 60), 1);
            Due.is("item 59", x.item(sort, 59, 1), 1);
            Due.is("the same again", x.tape(sort, sort, 60), 1);
            Due.is("all 0", x.read(sort, 59), 0);
            Due.is("no more", x.read(sort, 60), NO);
            Due.is("of 0 items", x.tape(sort, sort, 0), 1);
            Due.is("none", x.read(sort, 0), NO);
            Due.is("but a row", x.item(sort, 0, 0), -13);
        }
        Due.is("nothing", x.tape(0, -1, -99), 1);
        Due.is("nothing there", x.item(0, 0, 0), -11);
        Due.is("nothing to read", x.read(0, 0), NO);
        Due.is("tape 6", x.tape(6, 9, 99), -1);
        Due.is("tape -1", x.tape(-1, 0, 1), -1);
        Due.is("sort 5", x.tape(1, 5, -1), -2);
        Due.is("sort -2", x.tape(1, -2, 1), -2);
        Due.is("61", x.tape(1, 0, 61), -2);
        Due.is("MAX", x.tape(1, 0, Integer.MAX_VALUE), -2);
        Due.is("-1", x.tape(1, 0, -1), -14);
        Due.is("nothing, 61", x.tape(5, -1, 61), 1);
    }

    private static void item(int sort, long v, long want) {
        TwoOnOneBack x = new TwoOnOneBack();
        x.tape(2, sort, 2);
        Due.is("item", x.item(2, 1, v), 1);
        Due.is("sort " + sort + " of " + v, x.read(2, 1), want);
        Due.is("its neighbour", x.read(2, 0), 0);
    }

    private static void item() {
        item(0, 127, 127);
        item(0, 128, -128);
        item(0, 256, 0);
        item(1, 32767, 32767);
        item(1, 32768, -32768);
        item(1, -65537, -1);
        item(2, 1L << 31, Integer.MIN_VALUE);
        item(2, (1L << 32) + 5, 5);
        item(3, Long.MIN_VALUE, Long.MIN_VALUE);
        item(3, Long.MAX_VALUE, Long.MAX_VALUE);
        item(4, 0, 0);
        item(4, 2, 1);
        item(4, 1L << 40, 1);
        item(4, -1, 1);
        TwoOnOneBack x = new TwoOnOneBack();
        x.tape(0, 3, 2);
        Due.is("place 2", x.item(0, 2, 0), -13);
        Due.is("place -1", x.item(0, -1, 0), -13);
        Due.is("nothing, place -1", x.item(1, -1, 0), -11);
        Due.is("tape 6", x.item(6, 0, 0), -1);
        Due.is("tape -1", x.item(-1, 0, 0), -1);
    }

    private static void read() {
        TwoOnOneBack x = new TwoOnOneBack();
        x.tape(3, 2, 3);
        x.item(3, 2, -7);
        Due.is("item 2", x.read(3, 2), -7);
        Due.is("item 3", x.read(3, 3), NO);
        Due.is("item -1", x.read(3, -1), NO);
        Due.is("nothing there", x.read(2, 0), NO);
        Due.is("tape 6", x.read(6, 0), NO);
        Due.is("tape -1", x.read(-1, 0), NO);
    }

    private static TwoOnOneBack counted() {
        TwoOnOneBack x = new TwoOnOneBack();
        x.tape(0, 3, 6);
        x.tape(1, 3, 4);
        x.tape(2, 2, 4);
        for (int k = 0; k < 6; k++) {
            x.item(0, k, k + 1);
        }
        return x;
    }

    private static void row(TwoOnOneBack x, int tape, long... want) {
        for (int k = 0; k < want.length; k++) {
            Due.is("tape " + tape + " item " + k, x.read(tape, k), want[k]);
        }
    }

    private static void shift() {
        TwoOnOneBack x = counted();
        Due.is("to another", x.shift(0, 1, 1, 2, 2), 2);
        row(x, 1, 0, 0, 2, 3);
        row(x, 0, 1, 2, 3, 4, 5, 6);
        Due.is("the same, forth", x.shift(0, 0, 0, 2, 4), 4);
        row(x, 0, 1, 2, 1, 2, 3, 4);
        x = counted();
        Due.is("the same, back", x.shift(0, 2, 0, 0, 4), 4);
        row(x, 0, 3, 4, 5, 6, 5, 6);
        Due.is("none, at both ends", x.shift(0, 6, 1, 4, 0), 0);
        Due.is("tape 6", x.shift(6, 0, 0, 0, 1), -1);
        Due.is("other 6", x.shift(0, 0, 6, 0, 1), -1);
        Due.is("other -1", x.shift(3, 0, -1, 0, 1), -1);
        Due.is("nothing", x.shift(3, 0, 2, 0, -1), -11);
        Due.is("nothing in the other", x.shift(0, 0, 3, 0, -1), -11);
        Due.is("unlike sorts", x.shift(0, 0, 2, 0, -1), -12);
        int[][] places = {{0, 0, -1}, {-1, 0, 1}, {0, -1, 1}, {5, 0, 2}, {0, 3, 2}, {7, 0, 0}, {0, 5, 0},
            {Integer.MAX_VALUE, 0, 1}, {0, Integer.MAX_VALUE, 1}, {1, 1, Integer.MAX_VALUE}, {-1, -1, 0}};
        for (int[] p : places) {
            Due.is("no such place " + p[0] + " " + p[1] + " " + p[2], x.shift(0, p[0], 1, p[1], p[2]), -13);
        }
        row(x, 0, 3, 4, 5, 6, 5, 6);
        row(x, 1, 0, 0, 0, 0);
    }
}
