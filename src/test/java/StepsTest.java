/** Promises 9 and 10: may, step. */
public final class StepsTest {
    public static void main(String[] args) {
        on();
        aside();
        back();
        rounds();
        ledges();
        doorsAndStairs();
        walls();
        dancers();
        steps();
        rhythm();
        refused();
        Due.end("StepsTest");
    }

    private static long may(TwoOnOneBack x, int kind, int v, int cell, int way, int beat) {
        TwoOnOneBack y = x;
        if (y.count(0) == 0) {
            y.image();
        }
        y.undo();
        y.walker(kind, v, cell, way);
        y.put(0, cell, way, beat);
        return y.may(0);
    }

    private static void on() {
        TwoOnOneBack x = new TwoOnOneBack();
        Due.is("walker", may(x, 0, 0, 14, 1, 0), 7);
        Due.is("walker facing 3", may(x, 0, 0, 14, 3, 1), 13);
        Due.is("turner", may(x, 1, 0, 14, 1, 0), 15);
        Due.is("round", may(x, 2, 0, 14, 2, 0), 14);
        Due.is("lame, even", may(x, 3, 2, 14, 1, 0), 7);
        Due.is("lame, odd", may(x, 3, 1, 14, 1, 0), 2);
        Due.is("led by 6", may(x, 4, 6, 14, 1, 0), 11);
        Due.is("led by 9", may(x, 4, 9, 14, 1, 0), 13);
        Due.is("blind", may(x, 5, 0, 14, 1, 0), 2);
        Due.is("dancer, 0", may(x, 6, 0, 14, 1, 0), 7);
    }

    private static void aside() {
        TwoOnOneBack x = new TwoOnOneBack();
        Due.is("walker in the corner", may(x, 0, 0, 0, 0, 0), 2);
        Due.is("walker at the right edge", may(x, 0, 0, 11, 1, 0), 5);
        Due.is("walker at the left edge", may(x, 0, 0, 12, 3, 0), 5);
        Due.is("walker at the lower edge", may(x, 0, 0, 32, 2, 0), 10);
        Due.is("blind at the edge", may(x, 5, 0, 17, 1, 0), 5);
        Due.is("blind in the corner", may(x, 5, 0, 5, 1, 0), 4);
        Due.is("lame in the corner stands", may(x, 3, 1, 0, 0, 0), 32);
        Due.is("lame, even, in the corner", may(x, 3, 2, 0, 0, 0), 2);
        Due.is("turner in the corner", may(x, 1, 0, 35, 1, 0), 9);
    }

    private static void back() {
        TwoOnOneBack x = new TwoOnOneBack();
        for (int kind = 0; kind < 7; kind++) {
            Due.is("back of kind " + kind, may(x, kind, 1, 14, 1, 2), 16);
            boolean stays = kind == 2 || kind == 5;
            Due.is("back at the edge of kind " + kind, may(x, kind, 1, 12, 1, 2), stays ? 16 : 32);
            Due.is("where back goes", x.step(0, stays ? 4 : 5), 12);
        }
        may(x, 1, 0, 14, 1, 2);
        Due.is("back", x.step(0, 4), 13);
        Due.is("it still faces", x.of(0, 3), 1);
        Due.is("it has come from", x.of(0, 5), 14);
        Due.is("its beat", x.of(0, 4), 0);
        Due.is("gone", x.of(0, 6), 1);
    }

    private static void rounds() {
        TwoOnOneBack x = Due.on("on 1;back 3");
        for (int kind = 2; kind < 6; kind += 3) {
            int w = x.walker(kind, 0, 14, 1);
            Due.is("on", x.step(w, 1), 15);
            Due.is("it may", x.may(w), 16);
            Due.is("back the way it came", x.step(w, 4), 14);
            Due.is("from", x.of(w, 5), 15);
            Due.is("there again", x.step(w, 4), 15);
            Due.is("and back", x.step(w, 4), 14);
            Due.is("facing", x.of(w, 3), 1);
        }
        x.put(0, 20, 3, 1);
        Due.is("put: from its own", x.step(0, 4), 20);
        Due.is("its own", x.of(0, 5), 20);
        Due.is("not across", x.may(0), 16);
        x.put(0, 20, 0, 0);
        Due.is("on", x.step(0, 1), 21);
        Due.is("not across of 1 when it turned", x.step(0, 4), 20);
    }

    private static void ledges() {
        TwoOnOneBack x = Due.on("ledge i=8");
        Due.is("not aside onto it", may(x, 0, 0, 14, 1, 0), 6);
        Due.is("straight onto it", may(x, 0, 0, 14, 0, 0), 11);
        Due.is("turner not aside", may(x, 1, 0, 14, 2, 0), 14);
        Due.is("turner straight", may(x, 1, 0, 14, 0, 0), 15);
        Due.is("led not aside", may(x, 4, 1, 14, 2, 0), 12);
        Due.is("blind straight", may(x, 5, 0, 14, 0, 0), 1);
        Due.is("not back onto it", may(x, 0, 0, 14, 2, 2), 32);
        Due.is("back from it", may(x, 0, 0, 8, 1, 2), 16);
        Due.is("round not back into its own", may(x, 2, 0, 8, 1, 2), 32);
        x.undo();
        x.walker(2, 0, 8, 2);
        x.step(0, 2);
        x.put(0, 8, 2, 1);
        x.step(0, 2);
        Due.is("round not back onto it", x.may(0), 32);
    }

    private static void doorsAndStairs() {
        String[] words = {"door i=14", "stair i=14"};
        for (String word : words) {
            TwoOnOneBack x = Due.on(word);
            for (int kind = 0; kind < 7; kind++) {
                Due.is(word + ": not back out of it", may(x, kind, 1, 14, 1, 2), 32);
                Due.is(word + ": back into it", may(x, kind, 1, 15, 1, 2), 16);
            }
            Due.is(word + ": on out of it", may(x, 0, 0, 14, 1, 0), 7);
            Due.is(word + ": on into it, aside", may(x, 0, 0, 20, 1, 0), 7);
        }
    }

    private static void walls() {
        TwoOnOneBack x = Due.on("wall i=15");
        Due.is("walker", may(x, 0, 0, 14, 1, 0), 5);
        Due.is("turner", may(x, 1, 0, 16, 1, 0), 7);
        Due.is("blind", may(x, 5, 0, 14, 1, 0), 5);
        Due.is("back", may(x, 0, 0, 16, 1, 2), 32);
        may(x, 2, 0, 9, 1, 2);
        Due.is("a wall where it stands", Due.land(x, "wall i=9"), 1);
        Due.is("not back into its own wall", x.may(0), 32);
        x.step(0, 5);
        Due.is("on out of a wall", x.may(0), 7);
        Due.is("and it goes", x.step(0, 0), 3);
        x.step(0, 1);
        x.put(0, 3, 1, 0);
        x.step(0, 1);
        x.step(0, 2);
        Due.is("round back", x.step(0, 4), 4);
        TwoOnOneBack shut = Due.on("wall !i=7");
        for (int kind = 0; kind < 7; kind++) {
            Due.is("shut in", may(shut, kind, 1, 7, 1, 0), 32);
        }
    }

    private static void dancers() {
        TwoOnOneBack x = new TwoOnOneBack();
        x.walker(6, 2, 14, 1);
        Due.is("gone 0: a multiple of 2", x.may(0), 39);
        Due.is("stands", x.step(0, 5), 14);
        Due.is("from", x.of(0, 5), 14);
        Due.is("gone 1: odd", x.may(0), 2);
        x.step(0, 1);
        Due.is("gone 2, but a back beat", x.may(0), 16);
        x.step(0, 4);
        Due.is("gone 3", x.may(0), 2);
        x.step(0, 1);
        Due.is("gone 4", x.may(0), 39);
        Due.is("it stands, facing", x.step(0, 5), 15);
        Due.is("facing", x.of(0, 3), 1);
        Due.is("from, as before it stood", x.of(0, 5), 14);
        int w = x.walker(6, 3, 14, 1);
        Due.is("v 3, gone 0: odd, and it may stand", x.may(w), 34);
        x.step(w, 1);
        Due.is("v 3, gone 1: even", x.may(w), 7);
        int u = x.walker(3, 2, 14, 1);
        x.step(u, 1);
        Due.is("lame never stands so", x.may(u), 2);
    }

    private static void steps() {
        TwoOnOneBack x = new TwoOnOneBack();
        x.walker(1, 0, 14, 1);
        Due.is("on by 3", x.step(0, 3), 13);
        Due.is("on by 2", x.step(0, 2), 19);
        Due.is("back by 0", x.step(0, 4), 13);
        Due.is("on by 0", x.step(0, 0), 7);
        Due.is("on by 1", x.step(0, 1), 8);
        int[] want = {1, 0, 8, 1, 2, 7, 5};
        for (int what = 0; what < 7; what++) {
            Due.is("of " + what, x.of(0, what), want[what]);
        }
    }

    private static void rhythm() {
        TwoOnOneBack x = Due.on("on 1;back 2");
        x.walker(0, 0, 14, 1);
        int[] step = {1, 4, 4, 1, 4, 4};
        int[] cell = {15, 14, 13, 14, 13, 12};
        for (int n = 0; n < 6; n++) {
            Due.is("beat", x.of(0, 4), n % 3);
            Due.is("step " + n, x.step(0, step[n]), cell[n]);
        }
        x.put(0, 14, 1, 7);
        Due.is("beat 7 of 3 is an on beat's next", x.may(0), 16);
        x.put(0, 14, 1, 6);
        Due.is("beat 6 of 3 is on", x.may(0), 7);
    }

    private static void refused() {
        TwoOnOneBack x = new TwoOnOneBack();
        Due.is("may of none", x.may(0), -1);
        Due.is("step of none", x.step(0, 9), -1);
        x.walker(0, 0, 14, 1);
        Due.is("may(-1)", x.may(-1), -1);
        Due.is("may(6)", x.may(6), -1);
        Due.is("step -1", x.step(0, -1), -1);
        Due.is("step 6", x.step(0, 6), -1);
        Due.is("step 33", x.step(0, 33), -1);
        Due.is("across", x.step(0, 3), -3);
        Due.is("back in an on beat", x.step(0, 4), -3);
        Due.is("standing", x.step(0, 5), -3);
        Due.is("nothing changed", x.of(0, 6), 0);
    }
}
