/** Terms, part 4, sentence by sentence: tapes, what their items hold, judging, the host's refusals. */
public final class Terms4Test {
    private static final long NO = Long.MIN_VALUE;

    public static void main(String[] args) {
        nothingAtFirst();
        sizes();
        allZero();
        lowestBits();
        places();
        judged();
        judgedAtTheEnd();
        judgedOfNobody();
        judgedByCast();
        shifted();
        shiftedOverItself();
        shiftedAtTheEnds();
        Due.end("Terms4Test");
    }

    // "TAPES 0 .. 5 hold nothing (at first)"
    private static void nothingAtFirst() {
        TwoOnOneBack x = new TwoOnOneBack();
        x.walker(0, 0, 0, 0);
        for (int tape = -1; tape <= 6; tape++) {
            boolean is = tape >= 0 && tape < 6;
            Due.is("item of " + tape, x.item(tape, 0, 1), is ? -11 : -1);
            Due.is("read of " + tape, x.read(tape, 0), NO);
            Due.is("judge of " + tape, x.judge(tape, 0), is ? 100 : -1);
            Due.is("shift of " + tape, x.shift(tape, 0, tape, 0, 0), is ? -11 : -1);
            Due.is("tape " + tape, x.tape(tape, 3, 1), is ? 1 : -1);
            Due.is("item of " + tape + " then", x.item(tape, 0, 7), is ? 1 : -1);
            Due.is("read of " + tape + " then", x.read(tape, 0), is ? 7 : NO);
        }
        for (int tape = 0; tape < 6; tape++) {
            Due.is("to hold nothing again", x.tape(tape, -1, 60), 1);
            Due.is("item", x.item(tape, 0, 1), -11);
            Due.is("read", x.read(tape, 0), NO);
        }
    }

    // "a row of n (0 .. 60)", "SIZE (-14): a size below 0", "(sort -1: n does not matter)"
    private static void sizes() {
        TwoOnOneBack x = new TwoOnOneBack();
        int[] ns = {Integer.MIN_VALUE, -61, -1, 0, 1, 59, 60, 61, Integer.MAX_VALUE};
        for (int n : ns) {
            for (int sort = 0; sort < 5; sort++) {
                Due.is("tape of " + n, x.tape(sort, sort, n), n < 0 ? -14 : n > 60 ? -2 : 1);
            }
            Due.is("nothing of " + n, x.tape(5, -1, n), 1);
            Due.is("sort -2 of " + n, x.tape(5, -2, n), -2);
            Due.is("sort 5 of " + n, x.tape(5, 5, n), -2);
            Due.is("no tape of " + n, x.tape(6, 5, n), -1);
        }
        for (int sort = 0; sort < 5; sort++) {
            Due.is("of 60", x.tape(sort, sort, 60), 1);
            Due.is("of -1", x.tape(sort, sort, -1), -14);
            Due.is("of 61", x.tape(sort, sort, 61), -2);
            Due.is("of sort 5", x.tape(sort, 5, 3), -2);
            Due.is("still of 60", x.read(sort, 59), 0);
            Due.is("of 0", x.tape(sort, sort, 0), 1);
            Due.is("no item of 0", x.item(sort, 0, 1), -13);
            Due.is("none to read", x.read(sort, 0), NO);
            Due.is("none to shift", x.shift(sort, 0, sort, 0, 0), 0);
        }
    }

    // "A TAPE becomes a row of n of a sort, all 0"
    private static void allZero() {
        TwoOnOneBack x = new TwoOnOneBack();
        for (int sort = 0; sort < 5; sort++) {
            x.tape(0, sort, 20);
            for (int k = 0; k < 20; k++) {
                Due.is("an item of sort " + sort, x.item(0, k, 1), 1);
            }
            x.tape(0, (sort + 1) % 5, 20);
            for (int k = 0; k < 20; k++) {
                Due.is("all 0 behind sort " + sort, x.read(0, k), 0);
            }
        }
    }

    private static long due(int sort, long v) {
        switch (sort) {
            case 0: return v << 56 >> 56;
            case 1: return v << 48 >> 48;
            case 2: return v << 32 >> 32;
            case 4: return v == 0 ? 0 : 1;
            default: return v;
        }
    }

    // "(its lowest bits, as many as an item has; booleans: whether v is not 0)"
    private static void lowestBits() {
        TwoOnOneBack x = new TwoOnOneBack();
        for (int sort = 0; sort < 5; sort++) {
            x = new TwoOnOneBack();
            x.tape(sort, sort, 60);
            for (int bit = 0; bit < 64; bit += bit == 6 || bit == 14 || bit == 30 || bit == 62 ? 1 : 2) {
                for (long v = (1L << bit) - 1; v <= (1L << bit) + 1 && v >= (1L << bit) - 1; v++) {
                    Due.is("item", x.item(sort, bit % 60, v), 1);
                    Due.is("sort " + sort + " of " + v, x.read(sort, bit % 60), due(sort, v));
                    Due.is("item", x.item(sort, bit % 60, -v), 1);
                    Due.is("sort " + sort + " of " + -v, x.read(sort, bit % 60), due(sort, -v));
                }
            }
            x.item(sort, 0, Long.MIN_VALUE);
            Due.is("the least, sort " + sort, x.read(sort, 0), due(sort, Long.MIN_VALUE));
            x.item(sort, 0, Long.MAX_VALUE);
            Due.is("the most, sort " + sort, x.read(sort, 0), due(sort, Long.MAX_VALUE));
        }
    }

    // "PLACE (-13): no such place"
    private static void places() {
        for (int n = 0; n <= 60; n += 12) {
            for (int sort = 0; sort < 5; sort++) {
                TwoOnOneBack x = new TwoOnOneBack();
                x.tape(5, sort, n);
                for (int i : new int[] {Integer.MIN_VALUE, -1, 0, n - 1, n, n + 1, 60, Integer.MAX_VALUE}) {
                    boolean is = i >= 0 && i < n;
                    Due.is("item " + i + " of " + n, x.item(5, i, 1), is ? 1 : -13);
                    Due.is("read " + i + " of " + n, x.read(5, i), is ? 1 : NO);
                }
            }
        }
    }

    private static TwoOnOneBack crowd(int walkers) {
        TwoOnOneBack x = new TwoOnOneBack();
        for (int k = 0; k < walkers; k++) {
            x.walker(k, 0, 30 - 5 * k, 1);
        }
        return x;
    }

    // "from a place on, WALKER by WALKER .. the first WALKER who is elsewhere; -5: none"
    private static void judged() {
        TwoOnOneBack x = crowd(6);
        x.tape(0, 3, 8);
        for (int k = 0; k < 6; k++) {
            Due.is("the first who is elsewhere", x.judge(0, 2), k);
            x.item(0, 2 + k, 30 - 5 * k);
        }
        Due.is("none", x.judge(0, 2), -5);
        for (int k = 5; k >= 0; k--) {
            x.item(0, 2 + k, 36 + k);
            Due.is("the first, not the last", x.judge(0, 2), k);
        }
        for (int k = 0; k < 6; k++) {
            x.item(0, 2 + k, 30 - 5 * k + (1L << 32 + k));
            Due.is("a number that is no cell", x.judge(0, 2), k);
            x.item(0, 2 + k, 30 - 5 * k);
        }
        x.step(3, 1);
        Due.is("where all are now", x.judge(0, 2), 3);
        x.put(3, 15, 0, 0);
        Due.is("where all are now again", x.judge(0, 2), -5);
    }

    // "100 and how many were looked at, if the row ends ahead of that
    // (or the place is below 0, or the TAPE holds nothing)"
    private static void judgedAtTheEnd() {
        for (int n = 0; n <= 8; n++) {
            TwoOnOneBack x = crowd(6);
            x.tape(0, 3, n);
            for (int i = 0; i <= n; i++) {
                for (int k = 0; i + k < n; k++) {
                    x.item(0, i + k, 30 - 5 * k);
                }
                Due.is("from " + i + " of " + n, x.judge(0, i), n - i < 6 ? 100 + n - i : -5);
            }
            for (int i : new int[] {Integer.MIN_VALUE, -6, -1}) {
                Due.is("from " + i, x.judge(0, i), 100);
            }
            for (int i : new int[] {n, n + 1, Integer.MAX_VALUE}) {
                Due.is("from " + i + " of " + n, x.judge(0, i), 100);
            }
            Due.is("of nothing", x.judge(1, n), 100);
        }
        TwoOnOneBack x = crowd(3);
        x.tape(0, 3, 2);
        x.item(0, 0, 30);
        Due.is("one who is elsewhere, ahead of the end", x.judge(0, 0), 1);
        x.item(0, 1, 25);
        Due.is("the end", x.judge(0, 0), 102);
    }

    // "or there is none to look at (nothing is read then)"
    private static void judgedOfNobody() {
        TwoOnOneBack x = crowd(0);
        x.tape(0, 3, 3);
        x.tape(1, 3, 0);
        for (int tape = 0; tape < 3; tape++) {
            for (int i : new int[] {Integer.MIN_VALUE, -1, 0, 3, Integer.MAX_VALUE}) {
                Due.is("nobody, tape " + tape + " from " + i, x.judge(tape, i), -5);
            }
        }
        Due.is("no tape", x.judge(6, 0), -1);
        for (int sort = 0; sort < 5; sort++) {
            x.tape(3, sort, 2);
            Due.is("nobody, but a cast of sort " + sort, x.judge(3, 0), sort == 3 ? -5 : -12);
        }
    }

    // "CAST: it is no row of longs"
    private static void judgedByCast() {
        TwoOnOneBack x = crowd(1);
        for (int sort = 0; sort < 5; sort++) {
            for (int n = 0; n < 2; n++) {
                x.tape(2, sort, n);
                x.item(2, 0, 30);
                Due.is("sort " + sort + " of " + n, x.judge(2, 0), sort != 3 ? -12 : n == 0 ? 100 : -5);
                Due.is("sort " + sort + " from -1", x.judge(2, -1), sort != 3 ? -12 : 100);
            }
        }
    }

    private static TwoOnOneBack rows(int sort, int n) {
        TwoOnOneBack x = new TwoOnOneBack();
        x.tape(0, sort, n);
        x.tape(1, sort, n);
        for (int k = 0; k < n; k++) {
            x.item(0, k, k + 1);
            x.item(1, k, -k - 1);
        }
        return x;
    }

    // "n items of a TAPE from i on come to another one from j on"
    private static void shifted() {
        for (int sort = 0; sort < 4; sort++) {
            TwoOnOneBack x = rows(sort, 10);
            Due.is("shift", x.shift(0, 2, 1, 5, 4), 4);
            for (int k = 0; k < 10; k++) {
                Due.is("the other one " + k, x.read(1, k), k >= 5 && k < 9 ? k - 2 : -k - 1);
                Due.is("the one " + k, x.read(0, k), k + 1);
            }
        }
        TwoOnOneBack x = rows(3, 60);
        Due.is("all 60", x.shift(0, 0, 1, 0, 60), 60);
        Due.is("the last of 60", x.read(1, 59), 60);
        Due.is("the first of 60", x.read(1, 0), 1);
        for (int sort = 0; sort < 5; sort++) {
            for (int other = 0; other < 5; other++) {
                x.tape(2, sort, 2);
                x.tape(3, other, 2);
                Due.is(sort + " to " + other, x.shift(2, 0, 3, 0, 1), sort == other ? 1 : -12);
                Due.is(sort + " to " + other + ", no such place", x.shift(2, -1, 3, 0, 1), sort == other ? -13 : -12);
            }
        }
    }

    // "(or the same) .. as they all were before"
    private static void shiftedOverItself() {
        for (int i = 0; i < 6; i++) {
            for (int j = 0; j < 6; j++) {
                for (int n = 0; n <= 6 - Math.max(i, j); n++) {
                    TwoOnOneBack x = rows(2, 6);
                    Due.is("over itself", x.shift(0, i, 0, j, n), n);
                    for (int k = 0; k < 6; k++) {
                        int want = k >= j && k < j + n ? k - j + i + 1 : k + 1;
                        Due.is(n + " from " + i + " to " + j + ": item " + k, x.read(0, k), want);
                    }
                }
            }
        }
    }

    // "PLACE: n, i or j is below 0, or beyond either's end"
    private static void shiftedAtTheEnds() {
        TwoOnOneBack x = new TwoOnOneBack();
        x.tape(0, 3, 3);
        x.tape(1, 3, 5);
        int[] ends = {Integer.MIN_VALUE, -1, 0, 1, 2, 3, 4, 5, 6, Integer.MAX_VALUE};
        for (int i : ends) {
            for (int j : new int[] {-1, 0, 3, 5, 6, Integer.MAX_VALUE}) {
                for (int n : new int[] {-1, 0, 1, 3, 4, Integer.MAX_VALUE}) {
                    boolean is = i >= 0 && j >= 0 && n >= 0 && (long) i + n <= 3 && (long) j + n <= 5;
                    Due.is("3 and 5: " + i + " " + j + " " + n, x.shift(0, i, 1, j, n), is ? n : -13);
                }
            }
        }
        for (int sort = 0; sort < 5; sort++) {
            x = new TwoOnOneBack();
            x.tape(0, sort, 0);
            x.tape(1, sort, 60);
            Due.is("none from none", x.shift(0, 0, 0, 0, 0), 0);
            Due.is("none to the end", x.shift(0, 0, 1, 60, 0), 0);
            Due.is("none from the end", x.shift(1, 60, 0, 0, 0), 0);
            Due.is("none beyond the end", x.shift(0, 0, 1, 61, 0), -13);
            Due.is("one from none", x.shift(0, 0, 1, 0, 1), -13);
            Due.is("one to none", x.shift(1, 0, 0, 0, 1), -13);
            Due.is("sixty", x.shift(1, 0, 1, 0, 60), 60);
            Due.is("sixty-one", x.shift(1, 0, 1, 0, 61), -13);
        }
    }
}
