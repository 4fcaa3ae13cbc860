/** What the tests share: answers looked at, and lands told in one go. */
final class Due {
    private static int asked, wrong;

    private Due() {
    }

    static void is(String call, long got, long want) {
        asked++;
        if (got != want) {
            wrong++;
            System.out.println(call + " answered " + got + ", due is " + want);
        }
    }

    static void holds(String what, boolean so) {
        is(what, so ? 1 : 0, 1);
    }

    /** Feeds a text, and makes it a land: what land() answers. */
    static int land(TwoOnOneBack x, String text) {
        for (int k = 0; k < text.length(); k++) {
            x.feed(text.charAt(k));
        }
        return x.land();
    }

    /** A new object whose land is a text. */
    static TwoOnOneBack on(String text) {
        TwoOnOneBack x = new TwoOnOneBack();
        is("land of " + text, land(x, text), 0);
        return x;
    }

    /** Looks at where a text has its fault; below 0: it is a land. */
    static void fault(String text, int place) {
        is("fault of " + text, land(new TwoOnOneBack(), text), place < 0 ? 0 : -10 - place);
    }

    /** A new object on a land, whose only walker is put to a beat. */
    static TwoOnOneBack in(String land, int kind, int v, int cell, int way, int beat) {
        TwoOnOneBack x = on(land);
        is("walker in " + land, x.walker(kind, v, cell, way), 0);
        x.put(0, cell, way, beat);
        return x;
    }

    /** Tells tracks anew. */
    static void walk(TwoOnOneBack x, int... cells) {
        x.track(-1);
        for (int cell : cells) {
            x.track(cell);
        }
    }

    /** All that of() tells of a walker. */
    static void all(String of, TwoOnOneBack x, int walker, int... want) {
        for (int what = 0; what < 7; what++) {
            is(of + ": " + what, x.of(walker, what), want[what]);
        }
    }

    static long bits(int... cells) {
        long bits = 0;
        for (int cell : cells) {
            bits |= 1L << cell;
        }
        return bits;
    }

    static void end(String name) {
        System.out.println(name + ": " + asked + " answers, " + wrong + " wrong");
        if (wrong != 0 || asked == 0) {
            System.exit(1);
        }
    }
}
