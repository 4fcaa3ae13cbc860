/** Promises 11 to 16: soonest, begin, reached, never, meet, home. */
public final class WaysTest {
    private static final String CORRIDOR = "wall r>0";

    public static void main(String[] args) {
        soonest();
        limits();
        begin();
        reached();
        never();
        meet();
        home();
        asking();
        Due.end("WaysTest");
    }

    // in the corridor a WALKER FACING 1 can but go ON by 1, and back: one CELL further in three beats
    private static void soonest() {
        TwoOnOneBack x = Due.in(CORRIDOR, 0, 0, 0, 1, 0);
        int[] beats = {0, 1, 2, 5, 8, 11};
        for (int cell = 0; cell < 6; cell++) {
            Due.is("soonest to " + cell, x.soonest(0, cell, 0), beats[cell]);
            Due.is("first step to " + cell, x.soonest(0, cell, 1), cell == 0 ? -5 : 1);
        }
        Due.is("soonest to a wall", x.soonest(0, 6, 0), -5);
        Due.is("first step to a wall", x.soonest(0, 6, 1), -5);
        x.put(0, 0, 1, 2);
        Due.is("it stands first", x.soonest(0, 1, 0), 2);
        Due.is("first step", x.soonest(0, 1, 1), 5);
        Due.is("to its own, where it stands", x.soonest(0, 0, 1), -5);
        x.put(0, 3, 1, 2);
        Due.is("back", x.soonest(0, 2, 0), 1);
        Due.is("first step back", x.soonest(0, 2, 1), 4);
        x = Due.in("on 2", 0, 0, 14, 1, 0);
        Due.is("behind it", x.soonest(0, 13, 0), 5);
        Due.is("the least first step", x.soonest(0, 13, 1), 0);
        Due.is("beside it", x.soonest(0, 21, 0), 2);
        Due.is("by 1 ahead of by 2", x.soonest(0, 21, 1), 1);
        x.put(0, 14, 3, 0);
        Due.is("by 2 ahead of by 3", x.soonest(0, 19, 1), 2);
        Due.is("soonest(1, 0, 0)", x.soonest(1, 0, 0), -1);
        Due.is("soonest(-1, 0, 0)", x.soonest(-1, 0, 0), -1);
        Due.is("soonest(0, 36, 0)", x.soonest(0, 36, 0), -1);
        Due.is("soonest(0, -1, 0)", x.soonest(0, -1, 0), -1);
        Due.is("soonest(0, 0, 2)", x.soonest(0, 0, 2), -1);
        Due.is("soonest(0, 0, -1)", x.soonest(0, 0, -1), -1);
    }

    // a snake of 20 CELLS from 0 to 29, on 1, back 4: a ROUND one gets one CELL further in five beats,
    // so it is in the n-th behind 5 n - 4 beats; beginning with BEAT 1 it stays in its own for four beats first
    private static void limits() {
        String snake = "wall r=1&c<5|r=3&c>0|r=5;on 1;back 4";
        TwoOnOneBack x = Due.in(snake, 2, 0, 0, 1, 0);
        Due.is("the 12th", x.soonest(0, 12, 0), 56);
        Due.is("the 13th, 61 beats", x.soonest(0, 18, 0), -5);
        Due.is("the 13th, the first step", x.soonest(0, 18, 1), -5);
        Due.is("the 13th and all behind it", x.never(0), Due.bits(18, 24, 25, 26, 27, 28, 29));
        Due.is("begin to the 13th", x.begin(0, 18, 0), -5);
        Due.is("slower to the 13th", x.slower(0, 18, 2, 1), -1000);
        x.put(0, 0, 1, 1);
        Due.is("the 12th, 60 beats", x.soonest(0, 12, 0), 60);
        Due.is("the 12th, the first step", x.soonest(0, 12, 1), 4);
        Due.is("the 12th within 60", x.reached(0, 60) >> 12 & 1, 1);
        Due.is("the 12th within 59", x.reached(0, 59) >> 12 & 1, 0);
        Due.is("not never", x.never(0) >> 12 & 1, 0);
        x = Due.in("wall r=1&c<5|r=3&c>0|r=5;on 1;back 2", 0, 0, 0, 1, 0);
        x.walker(2, 1, 25, 2);
        Due.is("meeting behind 40 beats", x.meet(0, 1, 0), 40);
        Due.is("meeting in", x.meet(0, 1, 1), 1);
        x = Due.in(snake, 0, 0, 5, 1, 0);
        x.walker(2, 1, 25, 2);
        Due.is("meeting behind 41 beats", x.meet(0, 1, 0), -5);
        x = Due.in("wall r=1&c<5|r=3&c>0;on 1;back 4", 5, 0, 35, 1, 0);
        Due.is("home behind 60 beats", x.home(0), 60);
        x = Due.in("wall r=1&c<5|r=3&c>0|r=5;on 3;back 2", 3, 0, 5, 3, 0);
        Due.is("home behind 65 beats", x.home(0), -5);
    }

    private static void begin() {
        TwoOnOneBack x = Due.in(CORRIDOR, 0, 0, 0, 1, 2);
        Due.is("of several the least", x.begin(0, 1, 0), 0);
        Due.is("beats", x.begin(0, 1, 1), 1);
        Due.is("to the end", x.begin(0, 5, 0), 0);
        Due.is("to the end, beats", x.begin(0, 5, 1), 11);
        Due.is("to its own", x.begin(0, 0, 0), 0);
        Due.is("to its own, beats", x.begin(0, 0, 1), 0);
        Due.is("by none", x.begin(0, 9, 0), -5);
        Due.is("by none, beats", x.begin(0, 9, 1), -5);
        x = Due.in(CORRIDOR, 0, 0, 3, 1, 0);
        Due.is("with the back beat", x.begin(0, 2, 0), 2);
        Due.is("with the back beat, beats", x.begin(0, 2, 1), 1);
        Due.is("its beat is as it was", x.of(0, 4), 0);
        x = Due.in("on 4;back 4;wall r>0", 0, 0, 3, 1, 0);
        Due.is("the first of four back beats", x.begin(0, 2, 0), 4);
        Due.is("two cells back", x.begin(0, 1, 0), 4);
        Due.is("two cells back, beats", x.begin(0, 1, 1), 2);
        Due.is("begin(1, 0, 0)", x.begin(1, 0, 0), -1);
        Due.is("begin(0, 36, 0)", x.begin(0, 36, 0), -1);
        Due.is("begin(0, -1, 0)", x.begin(0, -1, 0), -1);
        Due.is("begin(0, 0, 2)", x.begin(0, 0, 2), -1);
        Due.is("begin(0, 0, -1)", x.begin(0, 0, -1), -1);
    }

    private static void reached() {
        TwoOnOneBack x = Due.in(CORRIDOR, 0, 0, 0, 1, 0);
        long[] want = {1, 3, 7, 7, 7, 15, 15, 15, 31, 31, 31, 63};
        for (int n = 0; n < want.length; n++) {
            Due.is("reached within " + n, x.reached(0, n), want[n]);
        }
        Due.is("reached within 60", x.reached(0, 60), 63);
        Due.is("reached within 61", x.reached(0, 61), Long.MIN_VALUE);
        Due.is("reached within -1", x.reached(0, -1), Long.MIN_VALUE);
        Due.is("reached by none", x.reached(1, 0), Long.MIN_VALUE);
        x = Due.in("on 2", 0, 0, 14, 1, 0);
        Due.is("open ground, 1", x.reached(0, 1), Due.bits(14, 8, 15, 20));
        int[] behind = {20, 13, 8, 15};
        for (int way = 0; way < 4; way++) {
            x.put(0, 14, way, 2);
            Due.is("open ground, back", x.reached(0, 1), Due.bits(14, behind[way]));
        }
        Due.land(x, "wall i=14");
        Due.is("its own, a wall", x.reached(0, 0), Due.bits(14));
    }

    private static void never() {
        TwoOnOneBack x = Due.in(CORRIDOR, 0, 0, 3, 1, 0);
        Due.is("behind it", x.never(0), Due.bits(0, 1, 2));
        x = Due.in("wall !i<3", 0, 0, 0, 1, 0);
        Due.is("all reached", x.never(0), 0);
        x = Due.in("wall i=1|i=6", 1, 0, 0, 1, 0);
        Due.is("shut in", x.never(0), (1L << 36) - 1 - 67);
        Due.is("never(1)", x.never(1), Long.MIN_VALUE);
        Due.is("never(-1)", x.never(-1), Long.MIN_VALUE);
        // on 1, back 1: it gets no further than one CELL but by its turns, and a led one by 1 has none
        x = Due.in("on 1;back 1;wall r>0", 4, 1, 0, 1, 0);
        Due.is("led not by 1", x.never(0), Due.bits(1, 2, 3, 4, 5));
    }

    private static void meet() {
        TwoOnOneBack x = Due.in(CORRIDOR, 0, 0, 0, 1, 0);
        x.walker(0, 0, 5, 3);
        Due.is("never: an odd way between", x.meet(0, 1, 0), -5);
        Due.is("never, the cell", x.meet(0, 1, 1), -5);
        x.put(1, 4, 3, 0);
        Due.is("in the middle", x.meet(0, 1, 0), 2);
        Due.is("in the middle, the cell", x.meet(0, 1, 1), 2);
        Due.is("the other way round", x.meet(1, 0, 1), 2);
        x.put(1, 0, 3, 1);
        Due.is("at once", x.meet(0, 1, 0), 0);
        Due.is("at once, the cell", x.meet(0, 1, 1), 0);
        // each at its own beat
        x.put(0, 0, 1, 1);
        x.put(1, 3, 1, 1);
        Due.is("own beats, at the end where both stand", x.meet(0, 1, 0), 13);
        Due.is("own beats, the end", x.meet(0, 1, 1), 5);
        x.put(1, 2, 1, 2);
        Due.is("own beats, meeting", x.meet(0, 1, 0), 1);
        Due.is("own beats, the cell", x.meet(0, 1, 1), 1);
        x = Due.in("on 2", 1, 0, 7, 1, 0);
        x.walker(1, 0, 14, 1);
        Due.is("the least cell of two", x.meet(0, 1, 1), 8);
        Due.is("meet(0, 2, 0)", x.meet(0, 2, 0), -1);
        Due.is("meet(2, 0, 0)", x.meet(2, 0, 0), -1);
        Due.is("meet(-1, 0, 0)", x.meet(-1, 0, 0), -1);
        Due.is("meet(0, 1, 2)", x.meet(0, 1, 2), -1);
        Due.is("meet(0, 0, 2)", x.meet(0, 0, 2), -1);
        Due.is("meet(0, 0, 0)", x.meet(0, 0, 0), -2);
        Due.is("meet(9, 9, 0)", x.meet(9, 9, 0), -1);
    }

    private static void home() {
        TwoOnOneBack x = Due.in("wall r>0;on 1;back 1", 0, 0, 0, 1, 0);
        Due.is("on 1, back 1", x.home(0), 2);
        x = Due.in("wall r>0;on 2;back 2", 0, 0, 0, 1, 0);
        Due.is("on 2, back 2", x.home(0), 4);
        x = Due.in(CORRIDOR, 0, 0, 4, 1, 0);
        Due.is("it stands once", x.home(0), 3);
        x.put(0, 5, 1, 0);
        Due.is("never", x.home(0), -5);
        x.put(0, 0, 1, 0);
        Due.is("never in the corner", x.home(0), -5);
        int[] begin = {34, 31, 1, 4};
        String[] lane = {"c!4", "r!5", "c!1", "r!0"};
        for (int way = 0; way < 4; way++) {
            String land = "wall !" + lane[way].replace('!', '=') + ";on 1;back 1";
            x = Due.in(land, 0, 0, begin[way], way, 0);
            Due.is("home by way " + way, x.home(0), 2);
        }
        x = Due.in("wall !i=7", 0, 0, 7, 1, 0);
        Due.is("standing all the round", x.home(0), 3);
        x = Due.in("on 2", 0, 0, 14, 1, 0);
        Due.is("facing as it does", x.home(0), 6);
        Due.is("home(1)", x.home(1), -1);
        Due.is("home(-1)", x.home(-1), -1);
    }

    private static void asking() {
        TwoOnOneBack x = Due.in("door c=2", 6, 3, 14, 1, 5);
        long[] before = new long[8];
        for (int what = 0; what < 8; what++) {
            before[what] = x.of(0, what);
        }
        x.walker(2, 0, 3, 1);
        x.soonest(0, 35, 1);
        x.begin(0, 35, 1);
        x.reached(0, 60);
        x.never(0);
        x.meet(0, 1, 0);
        x.home(0);
        x.lot(0, 3, 6, 1);
        x.slower(0, 3, 1, 2);
        x.hand(0, 2);
        x.tracks(0, 0);
        for (int what = 0; what < 8; what++) {
            Due.is("nothing changed", x.of(0, what), before[what]);
        }
    }
}
