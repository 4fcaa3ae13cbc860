/** Terms, part 3, the last two sentences: acts, the trace, the image. */
public final class Terms3ActsTest {
    private static final int MIN = Integer.MIN_VALUE, MAX = Integer.MAX_VALUE;

    public static void main(String[] args) {
        actsWrap();
        trace();
        image();
        imageOfRows();
        imageOfNothingElse();
        imageOfLands();
        Due.end("Terms3ActsTest");
    }

    private static void act(int kind, int v, int i, int act, int x, int want) {
        TwoOnOneBack y = new TwoOnOneBack();
        for (int k = 0; k < i; k++) {
            y.walker(0, 9, 0, 0);
        }
        y.walker(kind, v, 0, 0);
        Due.is("act " + act + " of kind " + kind + ", v " + v + ", i " + i + ", with " + x, y.act(i, act, x), want);
    }

    // "ACTS of a WALKER with x (wrapping)"
    private static void actsWrap() {
        act(0, 0, 1, 0, MAX, MIN);
        act(0, 0, 5, 0, MIN, MIN + 5);
        act(0, 3, 0, 1, MIN, MAX - 2);
        act(0, 0, 0, 2, MAX, -2);
        act(0, 0, 0, 2, MIN, 0);
        act(0, 0, 0, 2, 1 << 30, MIN);
        act(1, 1, 0, 1, MIN, MAX ^ 6);
        act(2, 0, 0, 0, MAX, MAX - 2);
        act(2, 0, 2, 0, MIN, MIN + 2);
        act(2, 0, 1, 0, 1 << 30, (1 << 30) * -1 + 1);
        act(3, 0, 1, 2, (1 << 30) - 2, MIN);
        act(4, 0, 0, 0, MIN, MIN);
        act(4, 0, 1, 0, MAX, MIN);
        act(4, 0, 0, 1, MAX, MIN + 6);
        act(4, 1, 0, 1, MAX, MAX ^ 6);
        act(5, 0, 1, 2, MIN, -4);
        act(6, 0, 0, 1, MAX, MIN + 1);
        act(6, 9, 1, 0, MAX, MIN ^ 9);
        act(6, 0, 0, 2, 1 << 30, MIN + 7);
        act(0, 9, 0, 1, 5, -4);
        act(0, 9, 0, 2, -5, -28);
    }

    // "the numbers of the bodies that ran in the latest act(), as they began"; none ahead of one
    private static void trace() {
        TwoOnOneBack x = new TwoOnOneBack();
        Due.is("ahead of all acts", x.trace(0), -1);
        x.walker(6, 3, 0, 0);
        x.walker(0, 0, 0, 0);
        Due.is("twelve bodies", x.act(0, 2, 4), 13);
        int[] want = {40, 12, 70, 11, 71, 10, 10, 70, 11, 71, 10, 10};
        for (int k = 0; k < 12; k++) {
            Due.is("body " + k, x.trace(k), want[k]);
        }
        Due.is("all of them", x.count(5), 12);
        for (int k : new int[] {-1, 12, 19, 20, 21, MIN, MAX}) {
            Due.is("no body " + k, x.trace(k), -1);
        }
        Due.is("a lesser act", x.act(1, 0, 1), 2);
        Due.is("its body", x.trace(0), 10);
        Due.is("nothing is left of the one before", x.trace(1), -1);
        Due.is("one ran", x.count(5), 1);
        Due.is("no such walker", x.act(2, 0, 7), 0);
        Due.is("no trace then", x.trace(0), -1);
        Due.is("none ran", x.count(5), 0);
        x.act(1, 1, 1);
        Due.is("no such act", x.act(1, 3, 7), 0);
        Due.is("no trace then", x.trace(0), -1);
        Due.is("none ran", x.count(5), 0);
    }

    // "WALKERS with CELLS, FACING, BEATS, where they came from, GONE"
    private static void image() {
        TwoOnOneBack x = new TwoOnOneBack();
        Due.is("undo without an image", x.undo(), -3);
        x.walker(2, 3, 14, 1);
        x.walker(6, 1, 20, 2);
        Due.is("still none", x.undo(), -3);
        x.step(0, 0);
        Due.is("image", x.image(), 2);
        x.step(0, 3);
        x.step(0, 4);
        x.put(1, 0, 0, 2);
        x.walker(5, 5, 5, 3);
        Due.is("undo", x.undo(), 2);
        Due.all("as in the image", x, 0, 2, 3, 8, 0, 1, 14, 1);
        Due.all("the other as in the image", x, 1, 6, 1, 20, 2, 0, 20, 0);
        Due.is("the third is gone", x.of(2, 0), -1);
        Due.is("it may be told again", x.walker(4, 4, 4, 0), 2);
        Due.all("told again", x, 2, 4, 4, 4, 0, 0, 4, 0);
        x.step(0, 0);
        Due.is("undone twice", x.undo(), 2);
        Due.all("as in the image again", x, 0, 2, 3, 8, 0, 1, 14, 1);
        Due.is("back the way it came", x.put(1, 20, 2, 0), 20);
        Due.is("by a step", x.step(0, 0), 2);
        Due.is("and back", x.step(0, 4), 8);
        Due.is("a newer image", x.image(), 2);
        x.step(0, 0);
        x.undo();
        Due.all("as in the newer one", x, 0, 2, 3, 8, 0, 0, 2, 3);
        for (int k = 2; k < 6; k++) {
            x.walker(k, k, k, 0);
        }
        Due.is("image of six", x.image(), 6);
        x.undo();
        Due.all("the sixth", x, 5, 5, 5, 5, 0, 0, 5, 0);
        Due.is("a seventh", x.walker(0, 0, 0, 0), -4);
    }

    // "the ROW, TRACKS": what is in them, not only how many
    private static void imageOfRows() {
        TwoOnOneBack x = Due.in("on 2", 1, 0, 14, 1, 0);
        x.row(0);
        x.row(3);
        x.row(4);
        Due.walk(x, 14, 15, 16, 15);
        x.image();
        x.row(-1);
        x.row(2);
        x.row(2);
        x.row(2);
        Due.walk(x, 14, 14, 14, 14);
        Due.is("two by hand", x.hand(0, 0), 2);
        Due.is("none stood so", x.tracks(1, 0), 0);
        x.undo();
        Due.is("three steps", x.count(2), 3);
        Due.is("four tracks", x.count(3), 4);
        Due.is("three by hand", x.hand(0, 0), 3);
        Due.is("where", x.hand(0, 1), 8);
        Due.is("facing", x.hand(0, 2), 3);
        Due.is("read", x.tracks(1, 0), 5);
        x.row(1);
        x.track(9);
        Due.is("four by hand", x.hand(0, 0), 4);
        Due.is("one more track", x.tracks(1, 0), 1);
        x.row(-1);
        x.track(-1);
        x.undo();
        Due.is("three by hand again", x.hand(0, 0), 3);
        Due.is("read again", x.tracks(1, 0), 5);
        x.row(-1);
        x.track(-1);
        x.image();
        x.row(1);
        x.track(1);
        x.undo();
        Due.is("an empty row", x.count(2), 0);
        Due.is("no tracks", x.count(3), 0);
    }

    // what THE IMAGE does not name stays as it is
    private static void imageOfNothingElse() {
        TwoOnOneBack x = new TwoOnOneBack();
        x.walker(0, 0, 14, 1);
        x.image();
        x.feed('o');
        x.tape(2, 1, 3);
        x.item(2, 1, 9);
        x.act(0, 2, 4);
        x.undo();
        Due.is("the text stays", x.count(4), 1);
        Due.is("the text goes on", x.feed('n'), 2);
        Due.is("the tapes stay", x.read(2, 1), 9);
        Due.is("the trace stays", x.trace(0), 12);
        Due.is("all of it", x.count(5), 3);
    }

    // "which LAND holds (LANDS stay)"
    private static void imageOfLands() {
        TwoOnOneBack x = new TwoOnOneBack();
        x.walker(0, 0, 14, 1);
        x.put(0, 14, 1, 6);
        x.image();
        for (int n = 0; n < 6; n++) {
            Due.is("land", Due.land(x, "on 4;back 4;wall i=" + n), n);
            Due.is("it holds", x.ground(n, 0), 1);
            Due.is("beat 6 of 8", x.of(0, 4), 6);
            x.undo();
            Due.is("none holds", x.ground(n, 0), 0);
            Due.is("beat 6 of 3", x.of(0, 4), 0);
            Due.is("lands stay", x.count(1), n + 1);
        }
        Due.is("six there are", Due.land(x, "on 1"), -4);
        Due.is("none holds", x.told(0), 2);
        TwoOnOneBack y = Due.on("wall i=7");
        y.image();
        Due.land(y, "wall i=8");
        y.walker(0, 0, 7, 1);
        y.undo();
        Due.is("a wall again", y.walker(0, 0, 7, 1), -3);
        Due.is("no wall again", y.walker(0, 0, 8, 1), 0);
    }
}
