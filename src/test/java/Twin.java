import java.util.ArrayList;
import java.util.List;

/**
 * An object with something of everything in it, made alike as often as wanted: what happened to one of them and
 * what not is seen by asking it and another one all that can be asked.
 */
final class Twin {
    static final int WALKERS = 4, TRACE = 12;
    private static final int[] CELLS = {0, 2, 3, 4, 9, 20, 26, 33};
    private static final List<String> ANEW = all(made());

    private Twin() {
    }

    /** Four walkers, an image that differs from what is, a land that differs from the image's, and a text begun. */
    static TwoOnOneBack made() {
        TwoOnOneBack x = Due.on("on 3;back 2;wall i=3;ledge i=9;door i=20;stair i=26");
        x.walker(2, 1, 14, 1);
        x.walker(6, 2, 7, 2);
        x.walker(4, 5, 28, 3);
        x.step(0, 1);
        x.step(1, 2);
        x.row(1);
        x.row(2);
        x.track(14);
        x.track(15);
        x.image();
        x.step(0, 2);
        x.put(2, 33, 0, 7);
        x.walker(6, 3, 35, 0);
        x.row(-1);
        x.row(0);
        x.row(3);
        x.track(21);
        Due.is("the twin's land", Due.land(x, "on 4;back 3;wall i=4|i=2"), 1);
        for (int k = 0; k < 8; k++) {
            x.feed("wall i=2".charAt(k));
        }
        int[] sorts = {3, 0, 1, 4, -1, 3};
        for (int tape = 0; tape < 6; tape++) {
            x.tape(tape, sorts[tape], 4);
            x.item(tape, 1, 40 - tape);
            x.item(tape, 3, -1);
        }
        x.act(3, 2, 5);
        return x;
    }

    private static void ask(List<String> seen, String what, long answer) {
        seen.add(what + " is " + answer);
    }

    private static void seen(List<String> seen, TwoOnOneBack x) {
        for (int what = 0; what < 6; what++) {
            ask(seen, "count " + what, x.count(what));
        }
        ask(seen, "on", x.told(0));
        ask(seen, "back", x.told(1));
        for (int k = 0; k <= WALKERS; k++) {
            for (int what = 0; what < 7; what++) {
                ask(seen, "of " + k + " " + what, x.of(k, what));
            }
            ask(seen, "may " + k, x.may(k));
            ask(seen, "by hand, how many " + k, x.hand(k, 0));
            ask(seen, "by hand, the cell " + k, x.hand(k, 1));
        }
        for (int cell : CELLS) {
            for (int what = 0; what < 4; what++) {
                ask(seen, "ground " + cell + " " + what, x.ground(cell, what));
            }
        }
        for (int kind = 0; kind < 7; kind++) {
            ask(seen, "read of kind " + kind, x.tracks(kind, 1));
        }
    }

    private static void tapes(List<String> seen, TwoOnOneBack x) {
        for (int k = 0; k <= TRACE; k++) {
            ask(seen, "trace " + k, x.trace(k));
        }
        for (int tape = 0; tape < 6; tape++) {
            for (int i = 0; i < 5; i++) {
                ask(seen, "read " + tape + " " + i, x.read(tape, i));
            }
        }
    }

    // undo() shows the image, and land() the text: so this is the last that is done with it
    private static List<String> all(TwoOnOneBack x) {
        List<String> seen = new ArrayList<>();
        seen(seen, x);
        tapes(seen, x);
        ask(seen, "undo", x.undo());
        seen(seen, x);
        ask(seen, "land", x.land());
        ask(seen, "a wall", x.ground(2, 0));
        return seen;
    }

    /** Looks whether one is as it was made. */
    static void unchanged(String behind, TwoOnOneBack x) {
        List<String> now = all(x);
        for (int k = 0; k < ANEW.size(); k++) {
            Due.holds("behind " + behind + " " + now.get(k) + ", was: " + ANEW.get(k), now.get(k).equals(ANEW.get(k)));
        }
    }
}
