/** Promises 17 to 20: row, hand, track, tracks. */
public final class RowsTest {
    public static void main(String[] args) {
        row();
        hand();
        track();
        tracks();
        inWalls();
        kinds();
        Due.end("RowsTest");
    }

    private static void row() {
        TwoOnOneBack x = new TwoOnOneBack();
        Due.is("row(-1), empty", x.row(-1), 0);
        Due.is("row(-2)", x.row(-2), -1);
        Due.is("row(6)", x.row(6), -1);
        for (int n = 1; n <= 12; n++) {
            Due.is("row", x.row(n % 6), n);
        }
        Due.is("a 13th", x.row(0), -4);
        Due.is("row(6), full", x.row(6), -1);
        Due.is("count(2)", x.count(2), 12);
        Due.is("row(-1)", x.row(-1), 0);
        Due.is("count(2), empty", x.count(2), 0);
        Due.is("a first again", x.row(5), 1);
    }

    private static void hand(TwoOnOneBack x, int steps, int cell, int facing) {
        Due.is("by hand, how many", x.hand(0, 0), steps);
        Due.is("by hand, the cell", x.hand(0, 1), cell);
        Due.is("by hand, facing", x.hand(0, 2), facing);
    }

    private static void hand() {
        TwoOnOneBack x = new TwoOnOneBack();
        x.walker(0, 0, 14, 1);
        hand(x, 0, 14, 1);
        x.row(0);
        hand(x, 1, 8, 0);
        x.row(1);
        hand(x, 2, 9, 1);
        x.row(4);
        hand(x, 3, 8, 1);
        x.row(3);
        hand(x, 3, 8, 1);
        x.row(1);
        hand(x, 3, 8, 1);
        Due.is("the walker is where it was", x.of(0, 2), 14);
        Due.is("hand(0, 3)", x.hand(0, 3), -1);
        Due.is("hand(0, -1)", x.hand(0, -1), -1);
        Due.is("hand(1, 0)", x.hand(1, 0), -1);
        Due.is("hand(-1, 0)", x.hand(-1, 0), -1);
        x.put(0, 14, 1, 2);
        hand(x, 0, 14, 1);
        x.row(-1);
        x.row(4);
        x.row(2);
        hand(x, 2, 19, 2);
    }

    private static void track() {
        TwoOnOneBack x = Due.on("wall i=3");
        Due.is("track(-1), none", x.track(-1), 0);
        Due.is("track(-2)", x.track(-2), -1);
        Due.is("track(36)", x.track(36), -1);
        Due.is("a wall", x.track(3), 1);
        for (int n = 2; n <= 12; n++) {
            Due.is("track", x.track(37 - n), n);
        }
        Due.is("a 13th", x.track(0), -4);
        Due.is("track(36), full", x.track(36), -1);
        Due.is("count(3)", x.count(3), 12);
        Due.is("track(-1)", x.track(-1), 0);
        Due.is("count(3), none", x.count(3), 0);
    }

    private static void tracks() {
        TwoOnOneBack x = new TwoOnOneBack();
        Due.is("without", x.tracks(0, 0), 7);
        Due.walk(x, 14);
        Due.is("one cell", x.tracks(0, 0), 7);
        Due.walk(x, 14, 15);
        Due.is("one on, or back", x.tracks(0, 0), 7);
        Due.walk(x, 14, 15, 14);
        Due.is("there and back", x.tracks(0, 0), 6);
        Due.walk(x, 14, 15, 16);
        Due.is("two on", x.tracks(0, 0), 1);
        Due.walk(x, 14, 15, 16, 15, 9);
        Due.is("two on, one back, one on", x.tracks(0, 0), 1);
        Due.walk(x, 14, 16);
        Due.is("a jump", x.tracks(0, 0), 0);
        Due.walk(x, 14, 1);
        Due.is("a far jump", x.tracks(1, 0), 0);
        Due.walk(x, 1, 6);
        Due.is("a jump past the corner", x.tracks(1, 0), 0);
        int[] around = {8, 15, 20, 13};
        for (int cell : around) {
            Due.walk(x, 14, cell);
            Due.is("blind goes but ahead: to " + cell, x.tracks(5, 0), 3);
            Due.is("lame goes but ahead, or back: to " + cell, x.tracks(3, 1), 7);
        }
        Due.walk(x, 14, 14);
        Due.is("none stands there", x.tracks(0, 0), 0);
        Due.walk(x, 12, 12);
        Due.is("standing at the edge, in the back beat", x.tracks(0, 0), 4);
        Due.is("tracks(7, 10)", x.tracks(7, 10), -1);
        Due.is("tracks(-1, 0)", x.tracks(-1, 0), -1);
        Due.is("tracks(0, 10)", x.tracks(0, 10), -2);
        Due.is("tracks(0, -1)", x.tracks(0, -1), -2);
        Due.is("a long rhythm", Due.land(x, "on 4;back 4"), 0);
        x.track(-1);
        Due.is("without, 8 beats", x.tracks(3, 1), 255);
    }

    private static void inWalls() {
        TwoOnOneBack x = Due.on("wall i=14");
        Due.walk(x, 14, 15);
        Due.is("out of a wall", x.tracks(0, 0), 7);
        Due.walk(x, 15, 14);
        Due.is("into a wall", x.tracks(0, 0), 0);
    }

    private static void kinds() {
        TwoOnOneBack x = new TwoOnOneBack();
        Due.walk(x, 14, 14);
        Due.is("round, back into its own", x.tracks(2, 0), 4);
        Due.is("blind, back into its own", x.tracks(5, 0), 4);
        Due.is("dancer, gone 0", x.tracks(6, 1), 3);
        Due.is("dancer, v 0", x.tracks(6, 0), 0);
        Due.walk(x, 14, 15, 14, 14);
        Due.is("dancer v 2, at gone 2", x.tracks(6, 2), 6);
        Due.is("dancer v 3, not at gone 2", x.tracks(6, 3), 0);
        Due.walk(x, 14, 15, 21);
        Due.is("walker turns", x.tracks(0, 0), 5);
        Due.is("lame v 1, turns at gone 1", x.tracks(3, 1), 5);
        Due.is("lame v 2 does not", x.tracks(3, 2), 0);
        Due.is("led not by 2", x.tracks(4, 2), 0);
        Due.is("led not by 1", x.tracks(4, 1), 4);
        Due.is("led not by 0", x.tracks(4, 0), 5);
        Due.is("blind does not", x.tracks(5, 0), 0);
    }
}
