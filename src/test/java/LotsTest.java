/** Promises 21 and 22: lot, slower. */
public final class LotsTest {
    public static void main(String[] args) {
        lot();
        stuck();
        refusedLots();
        slower();
        Due.end("LotsTest");
    }

    private static void odds(TwoOnOneBack x, int cell, int n, long above, long below) {
        Due.is("lot to " + cell + " in " + n + ", above", x.lot(0, cell, n, 0), above);
        Due.is("lot to " + cell + " in " + n + ", below", x.lot(0, cell, n, 1), below);
    }

    private static void lot() {
        TwoOnOneBack x = new TwoOnOneBack();
        x.walker(0, 0, 14, 1);
        odds(x, 14, 0, 1, 1);
        odds(x, 15, 0, 0, 1);
        odds(x, 8, 1, 1, 3);
        odds(x, 13, 1, 0, 1);
        odds(x, 9, 2, 2, 9);
        odds(x, 16, 2, 1, 9);
        // behind the back beat: 8 by 0-0, 3-0 (7), 1-0 (9) and their like
        odds(x, 8, 3, 1, 3);
        x.walker(1, 0, 14, 1);
        Due.is("turner, above", x.lot(1, 13, 1, 0), 1);
        Due.is("turner, below", x.lot(1, 13, 1, 1), 4);
        x.walker(6, 2, 14, 1);
        Due.is("dancer, of four", x.lot(2, 14, 1, 1), 4);
        Due.is("the dancer stays", x.of(2, 2), 14);
    }

    private static void stuck() {
        TwoOnOneBack x = Due.on("wall r>0");
        x.walker(0, 0, 0, 1);
        odds(x, 1, 3, 1, 1);
        odds(x, 2, 6, 1, 1);
        odds(x, 3, 6, 0, 1);
        odds(x, 9, 6, 0, 1);
        x.put(0, 0, 1, 2);
        odds(x, 0, 1, 1, 1);
        Due.land(x, "on 4;back 4");
        x.put(0, 14, 1, 0);
        odds(x, 14, 6, x.lot(0, 14, 6, 0), x.lot(0, 14, 6, 1));
        long above = 0;
        for (int cell = 0; cell < 36; cell++) {
            above += x.lot(0, cell, 6, 0) * (2985984 / x.lot(0, cell, 6, 1));
        }
        Due.is("all odds together", above, 2985984);
    }

    private static void refusedLots() {
        TwoOnOneBack x = new TwoOnOneBack();
        Due.is("no walker", x.lot(0, 0, 0, 0), Long.MIN_VALUE);
        x.walker(0, 0, 14, 1);
        Due.is("lot(-1, ..)", x.lot(-1, 0, 0, 0), Long.MIN_VALUE);
        Due.is("cell 36", x.lot(0, 36, 0, 0), Long.MIN_VALUE);
        Due.is("cell -1", x.lot(0, -1, 0, 0), Long.MIN_VALUE);
        Due.is("7 beats", x.lot(0, 0, 7, 0), Long.MIN_VALUE);
        Due.is("-1 beats", x.lot(0, 0, -1, 0), Long.MIN_VALUE);
        Due.is("part 2", x.lot(0, 0, 0, 2), Long.MIN_VALUE);
        Due.is("part -1", x.lot(0, 0, 0, -1), Long.MIN_VALUE);
    }

    private static void slower() {
        TwoOnOneBack x = new TwoOnOneBack();
        x.walker(3, 9, 14, 1);
        Due.is("walker 5, turner 1", x.slower(0, 13, 0, 1), 4);
        Due.is("turner 1, walker 5", x.slower(0, 13, 1, 0), -4);
        Due.is("the same", x.slower(0, 13, 2, 2), 0);
        Due.is("lame with v 0, at gone 0, may turn", x.slower(0, 8, 3, 0), 0);
        Due.is("so as the other one, too", x.slower(0, 8, 0, 3), 0);
        // a row up comes but by a step back, and that undoes one down
        Due.is("led with v 0, not by 0", x.slower(0, 8, 4, 1), -1000);
        Due.is("its kind is as it was", x.of(0, 0), 3);
        Due.is("its v is as it was", x.of(0, 1), 9);
        Due.is("own cell", x.slower(0, 14, 5, 6), 0);
        Due.is("walker 1", x.slower(1, 0, 0, 0), -1001);
        Due.is("walker -1", x.slower(-1, 0, 0, 0), -1001);
        Due.is("cell 36", x.slower(0, 36, 0, 0), -1001);
        Due.is("cell -1", x.slower(0, -1, 0, 0), -1001);
        Due.is("kind 7", x.slower(0, 0, 7, 0), -1001);
        Due.is("kind -1", x.slower(0, 0, -1, 0), -1001);
        Due.is("other 7", x.slower(0, 0, 0, 7), -1001);
        Due.is("other -1", x.slower(0, 0, 0, -1), -1001);
        TwoOnOneBack y = Due.on("wall r>0");
        y.walker(0, 0, 3, 1);
        Due.is("none by the first", y.slower(0, 2, 0, 1), -1000);
        Due.is("none by the other", y.slower(0, 2, 1, 0), -1000);
        Due.is("none by both", y.slower(0, 9, 1, 0), -1000);
        Due.is("both at once", y.slower(0, 4, 1, 0), 0);
    }
}
