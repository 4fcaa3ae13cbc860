/** Promises 1 to 8: a new object, feed, land, told, ground, walker, of, put. */
public final class LandsTest {
    public static void main(String[] args) {
        anew();
        feed();
        lands();
        faults();
        fullLands();
        told();
        ground();
        walker();
        of();
        put();
        Due.end("LandsTest");
    }

    private static void anew() {
        TwoOnOneBack x = new TwoOnOneBack();
        for (int what = 0; what < 6; what++) {
            Due.is("new: count", x.count(what), 0);
        }
        Due.is("new: told 0", x.told(0), 2);
        Due.is("new: told 1", x.told(1), 1);
        for (int cell = 0; cell < 36; cell++) {
            for (int what = 0; what < 4; what++) {
                Due.is("new: ground", x.ground(cell, what), 0);
            }
        }
        Due.is("new: of", x.of(0, 0), -1);
        Due.is("new: undo", x.undo(), -3);
        Due.is("new: read", x.read(0, 0), Long.MIN_VALUE);
        Due.is("new: trace", x.trace(0), -1);
    }

    private static void feed() {
        TwoOnOneBack x = new TwoOnOneBack();
        Due.is("feed(-1)", x.feed(-1), -2);
        Due.is("feed(128)", x.feed(128), -2);
        Due.is("feed(MIN)", x.feed(Integer.MIN_VALUE), -2);
        Due.is("feed(0)", x.feed(0), 1);
        Due.is("feed(127)", x.feed(127), 2);
        for (int n = 3; n <= 100; n++) {
            Due.is("feed", x.feed('o'), n);
        }
        Due.is("feed at 100", x.feed('o'), -4);
        Due.is("feed(128) at 100", x.feed(128), -2);
        Due.is("count(4) at 100", x.count(4), 100);
    }

    private static void lands() {
        TwoOnOneBack x = new TwoOnOneBack();
        Due.is("land 0", Due.land(x, "wall r=1"), 0);
        Due.is("empty behind it", x.count(4), 0);
        Due.is("wall of land 0", x.ground(6, 0), 1);
        Due.is("land 1", Due.land(x, "wall r=2"), 1);
        Due.is("no wall of land 0", x.ground(6, 0), 0);
        Due.is("wall of land 1", x.ground(12, 0), 1);
        Due.is("a fault", Due.land(x, "wall r=3;"), -19);
        Due.is("land 1 holds on", x.ground(12, 0), 1);
        Due.is("text empty behind a fault", x.count(4), 0);
        Due.is("lands", x.count(1), 2);
    }

    private static void faults() {
        Due.fault("", 0);
        Due.fault("x", 0);
        Due.fault("O", 0);
        Due.fault("o", 1);
        Due.fault("on", 2);
        Due.fault("on ", 3);
        Due.fault("on2", 2);
        Due.fault("on  2", 3);
        Due.fault("on 2", -1);
        Due.fault("on 02", -1);
        Due.fault("on 123", 5);
        Due.fault("on 2 ", 4);
        Due.fault("on 2;", 5);
        Due.fault(";on 2", 0);
        Due.fault("on 2; back 1", 5);
        Due.fault("back 1;bak 2", 9);
        Due.fault("wall", 4);
        Due.fault("wall 2", 5);
        Due.fault("wall r", 6);
        Due.fault("wall r2", 6);
        Due.fault("wall r=", 7);
        Due.fault("wall r=x", 7);
        Due.fault("wall r==1", 7);
        Due.fault("wall r=123", 9);
        Due.fault("wall x=1", 5);
        Due.fault("ledge r=1|", 10);
        Due.fault("ledge r=1||c=1", 10);
        Due.fault("ledge r=1&|c=1", 10);
        Due.fault("door (r=1", 9);
        Due.fault("door (r=1))", 10);
        Due.fault("door r=1)", 8);
        Due.fault("door ()", 6);
        Due.fault("stair !", 7);
        Due.fault("stair !&", 7);
        Due.fault("stair r=1 ", 9);
        Due.fault("stairs r=1", 5);
        Due.fault("wall r<1;wall c>2;wall s=3;wall d<4;wall i>5", -1);
        Due.fault("wall !!!!r=1", -1);
        Due.fault("wall !!!!!r=1", 9);
        Due.fault("wall ((((r=1))))", -1);
        Due.fault("wall (((((r=1)))))", 9);
        for (String word : new String[] {"ledge ", "door ", "stair "}) {
            Due.fault(word + "((((r=1))))", -1);
            Due.fault(word + "!!((!r=1))", word.length() + 4);
        }
        Due.fault("wall !(!(r=1))", -1);
        Due.fault("wall !(!((r=1)))", 9);
        Due.fault("wall !(!(!r=1))", 9);
        Due.fault("wall (r=1)&(c=1)|(s=1)&(d=1)|!(i=1)&!(i=2)", -1);
        String nine = "on 1;on 1;on 1;on 1;on 1;on 1;on 1;on 1;on 1";
        Due.fault(nine + ";on 1", -1);
        Due.fault(nine + ";on 1;on 1", 49);
        Due.fault(nine + ";on 1;", 49);
        StringBuilder all = new StringBuilder("wall r=1");
        while (all.length() < 100) {
            all.append(all.length() % 4 == 0 ? '|' : all.length() % 4 == 1 ? 'r' : all.length() % 4 == 2 ? '=' : '1');
        }
        Due.fault(all.toString(), -1);
        Due.fault(all.substring(0, 99), 99);
        Due.fault("wall r=11" + all.substring(8, 99), 100);
    }

    private static void fullLands() {
        TwoOnOneBack x = new TwoOnOneBack();
        for (int n = 0; n < 6; n++) {
            Due.is("land", Due.land(x, "on " + (n + 1)), n);
        }
        Due.is("a seventh", Due.land(x, "on 1"), -4);
        Due.is("its text stays", x.count(4), 4);
        Due.is("a seventh, at fault", Due.land(x, "on"), -4);
        Due.is("its text stays, too", x.count(4), 6);
        Due.is("the sixth holds", x.told(0), 4);
    }

    private static void told() {
        TwoOnOneBack x = Due.on("on 0;back 0");
        Due.is("on 0", x.told(0), 1);
        Due.is("back 0", x.told(1), 1);
        x = Due.on("back 3;on 3;on 99;back 5");
        Due.is("on 99", x.told(0), 4);
        Due.is("back 5", x.told(1), 4);
        x = Due.on("on 4;wall r=1;on 3");
        Due.is("the last on", x.told(0), 3);
        Due.is("back without", x.told(1), 1);
        Due.is("land", Due.land(x, "back 2"), 1);
        Due.is("on without", x.told(0), 2);
        Due.is("back 2", x.told(1), 2);
        Due.is("told(2)", x.told(2), -1);
        Due.is("told(-1)", x.told(-1), -1);
    }

    private static void marks(String e, long cells) {
        String[] words = {"wall ", "ledge ", "door ", "stair "};
        for (int what = 0; what < 4; what++) {
            TwoOnOneBack x = Due.on(words[what] + e);
            for (int cell = 0; cell < 36; cell++) {
                for (int k = 0; k < 4; k++) {
                    long want = k == what ? cells >> cell & 1 : 0;
                    Due.is(words[what] + e + " ground " + cell + " " + k, x.ground(cell, k), want);
                }
            }
        }
    }

    private static void ground() {
        marks("r=1", Due.bits(6, 7, 8, 9, 10, 11));
        marks("c<1", Due.bits(0, 6, 12, 18, 24, 30));
        marks("s>9", Due.bits(35));
        marks("s=1", Due.bits(1, 6));
        marks("d>4", Due.bits(5, 30));
        marks("d=0", Due.bits(0, 7, 14, 21, 28, 35));
        marks("i<3", Due.bits(0, 1, 2));
        marks("i=07", Due.bits(7));
        marks("i>99", 0);
        marks("i=10|i=20", Due.bits(10, 20));
        marks("i>29&i<40&c<1", Due.bits(30));
        marks("r=0&c=0|r=5&c=5", Due.bits(0, 35));
        marks("r=0&(c=0|r=5)&c<9", Due.bits(0));
        marks("!i>1", Due.bits(0, 1));
        marks("!i>1&i>0", Due.bits(1));
        marks("!(i>1&i<35)", Due.bits(0, 1, 35));
        marks("!!i=4|i=5", Due.bits(4, 5));
        TwoOnOneBack x = Due.on("wall i=3;door i=3;wall i=4");
        Due.is("both walls", x.ground(3, 0) + x.ground(4, 0), 2);
        Due.is("a wall and a door", x.ground(3, 2), 1);
        Due.is("ground(-1, 0)", x.ground(-1, 0), -1);
        Due.is("ground(36, 0)", x.ground(36, 0), -1);
        Due.is("ground(0, -1)", x.ground(0, -1), -1);
        Due.is("ground(0, 4)", x.ground(0, 4), -1);
    }

    private static void walker() {
        TwoOnOneBack x = Due.on("wall i=3");
        Due.is("kind 7", x.walker(7, 10, 3, 0), -1);
        Due.is("kind -1", x.walker(-1, 0, 0, 0), -1);
        Due.is("cell 36", x.walker(0, 10, 36, 0), -1);
        Due.is("cell -1", x.walker(0, 0, -1, 0), -1);
        Due.is("way 4", x.walker(0, 10, 3, 4), -1);
        Due.is("way -1", x.walker(0, 0, 0, -1), -1);
        Due.is("v 10", x.walker(0, 10, 3, 0), -2);
        Due.is("v -1", x.walker(0, -1, 0, 0), -2);
        Due.is("a wall", x.walker(0, 0, 3, 0), -3);
        for (int k = 0; k < 6; k++) {
            Due.is("walker", x.walker(k + 1, k, k * 7, k % 4), k);
        }
        Due.is("a wall, full", x.walker(0, 0, 3, 0), -3);
        Due.is("full", x.walker(0, 0, 4, 0), -4);
        Due.is("walkers", x.count(0), 6);
    }

    private static void of() {
        TwoOnOneBack x = new TwoOnOneBack();
        x.walker(1, 9, 14, 3);
        int[] want = {1, 9, 14, 3, 0, 14, 0, -1};
        for (int what = 0; what < 8; what++) {
            Due.is("of " + what, x.of(0, what), want[what]);
        }
        x.step(0, 0);
        int[] then = {1, 9, 8, 0, 1, 14, 1, -1};
        for (int what = 0; what < 8; what++) {
            Due.is("of " + what + " behind a step", x.of(0, what), then[what]);
        }
        Due.is("of(0, -1)", x.of(0, -1), -1);
        Due.is("of(1, 0)", x.of(1, 0), -1);
        Due.is("of(-1, 0)", x.of(-1, 0), -1);
    }

    private static void put() {
        TwoOnOneBack x = new TwoOnOneBack();
        x.walker(2, 1, 14, 1);
        x.step(0, 1);
        Due.is("put", x.put(0, 30, 2, 7), 15);
        int[] want = {2, 1, 30, 2, 1, 30, 1};
        for (int what = 0; what < 7; what++) {
            Due.is("of " + what + " behind put", x.of(0, what), want[what]);
        }
        Due.is("a longer rhythm", Due.land(x, "on 4;back 4;wall i=9"), 0);
        Due.is("the beat is kept", x.of(0, 4), 7);
        Due.is("a shorter rhythm", Due.land(x, "on 1;back 1;wall i=9"), 1);
        Due.is("the beat is told modulo 2", x.of(0, 4), 1);
        Due.is("step", x.step(0, 4), 30);
        Due.is("the next beat", x.of(0, 4), 0);
        Due.is("a longer rhythm again", Due.land(x, "on 4;back 4;wall i=9"), 2);
        Due.is("the next beat was kept", x.of(0, 4), 0);
        Due.is("walker 1", x.put(1, 9, 0, 8), -1);
        Due.is("walker -1", x.put(-1, 0, 0, 0), -1);
        Due.is("cell 36", x.put(0, 36, 0, 8), -1);
        Due.is("cell -1", x.put(0, -1, 0, 0), -1);
        Due.is("way 4", x.put(0, 9, 4, 8), -1);
        Due.is("way -1", x.put(0, 0, -1, 0), -1);
        Due.is("beat 8", x.put(0, 9, 0, 8), -2);
        Due.is("beat -1", x.put(0, 0, 0, -1), -2);
        Due.is("a wall", x.put(0, 9, 0, 0), -3);
        Due.is("nothing changed", x.of(0, 2), 30);
        Due.is("into its own", x.put(0, 30, 0, 0), 30);
    }
}
