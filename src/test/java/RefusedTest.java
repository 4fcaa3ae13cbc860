import java.lang.reflect.Method;
import java.util.Arrays;
import java.util.HashSet;
import java.util.Set;

/**
 * All promises: which numbers a call takes, the least and the most of them and those beyond; of several refusals
 * the first that the call's words name; what is refused, or asked, changes nothing.
 */
public final class RefusedTest {
    private static final int MIN = Integer.MIN_VALUE, MAX = Integer.MAX_VALUE;
    private static final long NO = Long.MIN_VALUE;
    // calls on one object between two looks at it: it is good for 512
    private static final int AT_ONCE = 120;

    /** What an argument may be, from the least on to the most, and what is answered by other ones. */
    private record Arg(int least, int most, long refusal, int[] beyond) {
        int values() {
            return 2 + beyond.length;
        }

        boolean takes(int k) {
            return k < 2;
        }

        int value(int k) {
            return k == 0 ? least : k == 1 ? most : beyond[k - 2];
        }
    }

    private static final Set<String> ASKED = new HashSet<>();
    private static TwoOnOneBack x;

    public static void main(String[] args) throws ReflectiveOperationException {
        lands();
        ways();
        rowsAndLots();
        host();
        tapes();
        nobody();
        sixWalkers();
        everyPromise();
        stepRefused();
        wallsRefused();
        meetRefused();
        undoRefused();
        fullText();
        fullLands();
        fullWalkers();
        fullRows();
        acts();
        castsAndNothing();
        tapeRefused();
        asking();
        Due.end("RefusedTest");
    }

    private static Arg from(int least, int most, long refusal) {
        return new Arg(least, most, refusal, new int[] {MIN, least - 1, most + 1, MAX});
    }

    /** An argument that is never refused. */
    private static Arg any(int one, int other) {
        return new Arg(one, other, 0, new int[0]);
    }

    private static Arg walker(long refusal) {
        return from(0, Twin.WALKERS - 1, refusal);
    }

    private static Arg cell(long refusal) {
        return from(0, 35, refusal);
    }

    private static Method method(String name) {
        for (Method m : TwoOnOneBack.class.getDeclaredMethods()) {
            if (m.getName().equals(name)) {
                return m;
            }
        }
        throw new IllegalStateException("no call " + name);
    }

    private static long answer(Method call, int[] args) throws ReflectiveOperationException {
        Object[] told = new Object[args.length];
        for (int k = 0; k < args.length; k++) {
            told[k] = call.getParameterTypes()[k] == long.class ? (Object) (long) args[k] : (Object) args[k];
        }
        return ((Number) call.invoke(x, told)).longValue();
    }

    /** All ways to refuse a call by its numbers; order is that in which its words name the refusals. */
    private static void refused(String name, long[] order, Arg... rules) throws ReflectiveOperationException {
        Method call = method(name);
        ASKED.add(name);
        x = Twin.made();
        int used = 0;
        int all = 1;
        for (Arg rule : rules) {
            all *= rule.values();
        }
        for (int n = 0; n < all; n++) {
            int[] args = new int[rules.length];
            Set<Long> refusals = new HashSet<>();
            for (int k = 0, m = n; k < rules.length; m /= rules[k].values(), k++) {
                int at = m % rules[k].values();
                args[k] = rules[k].value(at);
                if (!rules[k].takes(at)) {
                    refusals.add(rules[k].refusal);
                }
            }
            if (!refusals.isEmpty()) {
                Due.is(name + Arrays.toString(args), answer(call, args), first(order, refusals));
                used++;
            }
            if (used == AT_ONCE) {
                Twin.unchanged(name + " until " + Arrays.toString(args), x);
                x = Twin.made();
                used = 0;
            }
        }
        Twin.unchanged(name, x);
    }

    private static long first(long[] order, Set<Long> refusals) {
        for (long refusal : order) {
            if (refusals.contains(refusal)) {
                return refusal;
            }
        }
        throw new IllegalStateException("a refusal without a place: " + refusals);
    }

    private static long[] named(long... order) {
        return order;
    }

    private static void lands() throws ReflectiveOperationException {
        refused("feed", named(-2), from(0, 127, -2));
        refused("told", named(-1), from(0, 1, -1));
        refused("ground", named(-1), cell(-1), from(0, 3, -1));
        refused("walker", named(-1, -2), from(0, 6, -1), from(0, 9, -2), cell(-1), from(0, 3, -1));
        refused("of", named(-1), walker(-1), from(0, 6, -1));
        refused("put", named(-1, -2), walker(-1), cell(-1), from(0, 3, -1), from(0, 7, -2));
        refused("may", named(-1), walker(-1));
        refused("step", named(-1), walker(-1), from(0, 5, -1));
    }

    private static void ways() throws ReflectiveOperationException {
        refused("soonest", named(-1), walker(-1), cell(-1), from(0, 1, -1));
        refused("begin", named(-1), walker(-1), cell(-1), from(0, 1, -1));
        refused("reached", named(NO), walker(NO), from(0, 60, NO));
        refused("never", named(NO), walker(NO));
        refused("meet", named(-1), walker(-1), walker(-1), from(0, 1, -1));
        refused("home", named(-1), walker(-1));
    }

    private static void rowsAndLots() throws ReflectiveOperationException {
        refused("row", named(-1), from(-1, 5, -1));
        refused("hand", named(-1), walker(-1), from(0, 2, -1));
        refused("track", named(-1), from(-1, 35, -1));
        refused("tracks", named(-1, -2), from(0, 6, -1), from(0, 9, -2));
        refused("lot", named(NO), walker(NO), cell(NO), from(0, 6, NO), from(0, 1, NO));
        refused("slower", named(-1001), walker(-1001), cell(-1001), from(0, 6, -1001), from(0, 6, -1001));
    }

    private static void host() throws ReflectiveOperationException {
        refused("trace", named(-1), from(0, Twin.TRACE - 1, -1));
        refused("taken", named(-2, -11), walker(-11), from(0, 6, -2));
        refused("count", named(-2), from(0, 5, -2));
    }

    // tapes 0 and 5 are rows of four longs, 4 is nothing
    private static void tapes() throws ReflectiveOperationException {
        Arg tape = from(0, 5, -1);
        Arg sort = new Arg(0, 4, -2, new int[] {MIN, -2, 5, MAX});
        refused("judge", named(-1), tape, any(-1, 0));
        refused("tape", named(-1, -2), tape, sort, new Arg(0, 60, -2, new int[] {61, 62, 1000, MAX}));
        refused("tape", named(-1, -2, -14), tape, sort, new Arg(0, 60, -14, new int[] {MIN, -60, -2, -1}));
        refused("item", named(-1, -13), tape, from(0, 3, -13), any(0, 1));
        refused("read", named(NO), from(0, 5, NO), from(0, 3, NO));
        Arg place = from(0, 4, -13);
        refused("shift", named(-1, -13), tape, place, tape, place, new Arg(0, 0, -13, new int[] {MIN, -1, 5, MAX}));
    }

    private static final String[] BY_WALKER = {"of", "put", "may", "step", "soonest", "begin", "reached", "never",
        "meet", "home", "hand", "lot", "slower", "act", "taken"};

    private static long noWalker(String name) {
        switch (name) {
            case "reached": case "never": case "lot": return NO;
            case "slower": return -1001;
            case "taken": return -11;
            case "act": return 0;
            default: return -1;
        }
    }

    private static void noSuchWalker(int walker) throws ReflectiveOperationException {
        for (String name : BY_WALKER) {
            Method call = method(name);
            int[] args = new int[call.getParameterCount()];
            args[0] = walker;
            Due.is(name + Arrays.toString(args) + " of none", answer(call, args), noWalker(name));
        }
        for (int other = -1; other <= 6; other++) {
            Due.is("meet of one and none", x.meet(other, walker, 0), -1);
            Due.is("meet of none and one", x.meet(walker, other, 1), -1);
        }
    }

    // WALKERS as many as there are, from none on
    private static void nobody() throws ReflectiveOperationException {
        x = new TwoOnOneBack();
        for (int walkers = 0; walkers < 6; walkers++) {
            noSuchWalker(walkers);
            noSuchWalker(-1);
            Due.is("a walker comes", x.walker(walkers, 0, walkers, 0), walkers);
        }
        noSuchWalker(6);
    }

    private static void sixWalkers() {
        x = new TwoOnOneBack();
        for (int k = 0; k < 6; k++) {
            x.walker(1, 0, 7 * k, 0);
        }
        Due.is("of 5", x.of(5, 2), 35);
        Due.is("may of 5", x.may(5), 9);
        Due.is("soonest of 5", x.soonest(5, 34, 0), 1);
        Due.is("begin of 5", x.begin(5, 34, 1), 1);
        Due.is("reached by 5", x.reached(5, 0), 1L << 35);
        Due.is("never by 5", x.never(5), 0);
        Due.is("meet of 5 and 4", x.meet(5, 4, 0), 1);
        Due.is("meet of 4 and 5", x.meet(4, 5, 1), 29);
        Due.is("home of 5", x.home(5), 6);
        Due.is("hand of 5", x.hand(5, 1), 35);
        Due.is("lot of 5", x.lot(5, 34, 1, 1), 2);
        Due.is("slower of 5", x.slower(5, 34, 1, 0), 0);
        Due.is("act of 5", x.act(5, 0, 1), 6);
        Due.is("taken of 5", x.taken(5, 0), 1);
        Due.is("put of 5", x.put(5, 34, 0, 0), 35);
        Due.is("step of 5", x.step(5, 0), 28);
    }

    // a table for each call but those that have no numbers to refuse
    private static void everyPromise() {
        for (Method m : TwoOnOneBack.class.getDeclaredMethods()) {
            boolean open = java.lang.reflect.Modifier.isPublic(m.getModifiers());
            if (open && m.getParameterCount() > 0 && !m.getName().equals("act")) {
                Due.holds("a table for " + m.getName(), ASKED.contains(m.getName()));
            }
        }
    }

    // "STATE: it MAY not"
    private static void stepRefused() {
        for (int walker = 0; walker < Twin.WALKERS; walker++) {
            x = Twin.made();
            int may = x.may(walker);
            for (int step = 0; step < 6; step++) {
                if ((may >> step & 1) == 0) {
                    Due.is("walker " + walker + " step " + step, x.step(walker, step), -3);
                }
            }
            Twin.unchanged("steps that may not be", x);
        }
    }

    // "STATE: a WALL", behind NONE and BAD
    private static void wallsRefused() {
        x = Twin.made();
        for (int cell = 2; cell <= 4; cell += 2) {
            for (int kind = 0; kind < 7; kind++) {
                Due.is("walker in a wall", x.walker(kind, 9, cell, 3), -3);
            }
            Due.is("walker in a wall, kind", x.walker(7, 0, cell, 0), -1);
            Due.is("walker in a wall, way", x.walker(0, 10, cell, 4), -1);
            Due.is("walker in a wall, v", x.walker(0, 10, cell, 0), -2);
            for (int walker = 0; walker < Twin.WALKERS; walker++) {
                Due.is("put into a wall", x.put(walker, cell, 0, 7), -3);
            }
            Due.is("put into a wall, walker", x.put(Twin.WALKERS, cell, 0, 8), -1);
            Due.is("put into a wall, way", x.put(0, cell, 4, 8), -1);
            Due.is("put into a wall, beat", x.put(0, cell, 0, 8), -2);
        }
        Twin.unchanged("walls", x);
    }

    // "BAD: one WALKER", behind NONE
    private static void meetRefused() {
        x = Twin.made();
        for (int walker = 0; walker < Twin.WALKERS; walker++) {
            Due.is("one walker", x.meet(walker, walker, 0), -2);
            Due.is("one walker, the cell", x.meet(walker, walker, 1), -2);
            Due.is("one walker, what", x.meet(walker, walker, 2), -1);
        }
        Due.is("one that there is not", x.meet(Twin.WALKERS, Twin.WALKERS, 0), -1);
        Twin.unchanged("meetings of one", x);
    }

    // "STATE: there is none"
    private static void undoRefused() {
        x = new TwoOnOneBack();
        x.walker(3, 4, 14, 1);
        x.row(2);
        x.track(2);
        Due.is("undo without an image", x.undo(), -3);
        Due.is("the walker stays", x.of(0, 1), 4);
        Due.is("the row stays", x.count(2), 1);
        Due.is("the tracks stay", x.count(3), 1);
    }

    // "BAD; FULL"
    private static void fullText() {
        x = new TwoOnOneBack();
        for (int n = 0; n < 100; n++) {
            x.feed(n == 0 ? 'x' : n);
        }
        for (int sign : new int[] {MIN, -1, 128, MAX}) {
            Due.is("no sign", x.feed(sign), -2);
        }
        for (int sign : new int[] {0, 'o', 127}) {
            Due.is("no room", x.feed(sign), -4);
        }
        Due.is("a hundred stay", x.count(4), 100);
        Due.is("as they were", x.land(), -10);
    }

    // "FULL: there are 6 (THE TEXT stays)"
    private static void fullLands() {
        x = new TwoOnOneBack();
        x.image();
        for (int n = 0; n < 6; n++) {
            Due.is("land", Due.land(x, "wall i=" + n), n);
        }
        Due.is("no seventh", Due.land(x, "wall i=6"), -4);
        Due.is("the text stays", x.count(4), 8);
        Due.is("and again", x.land(), -4);
        Due.is("it comes behind what stayed", x.feed(';'), 9);
        Due.is("no seventh at fault", x.land(), -4);
        Due.is("no seventh wall", x.ground(6, 0), 0);
        Due.is("the sixth holds", x.ground(5, 0), 1);
        x.undo();
        Due.is("six, whichever holds", x.land(), -4);
        Due.is("none holds", x.ground(5, 0), 0);
    }

    // "FULL: 6", behind NONE, BAD and STATE
    private static void fullWalkers() {
        x = Due.on("wall i=3");
        for (int k = 0; k < 6; k++) {
            Due.is("walker", x.walker(0, 0, 0, 0), k);
        }
        Due.is("a seventh", x.walker(0, 0, 0, 0), -4);
        Due.is("a seventh in a wall", x.walker(0, 0, 3, 0), -3);
        Due.is("a seventh in a wall, v", x.walker(0, 10, 3, 0), -2);
        Due.is("a seventh, v", x.walker(0, -1, 0, 0), -2);
        Due.is("a seventh, kind", x.walker(7, 10, 3, 0), -1);
        Due.is("a seventh, cell", x.walker(0, 0, 36, 0), -1);
        Due.is("a seventh, way", x.walker(0, 0, 0, -1), -1);
        Due.is("six", x.count(0), 6);
        Due.is("the sixth is in 0", x.put(5, 1, 0, 0), 0);
    }

    // "NONE; FULL: 12", and -1 empties it, full or not
    private static void fullRows() {
        x = Due.in("on 2", 1, 0, 14, 1, 0);
        for (int n = 0; n < 12; n++) {
            Due.is("row", x.row(5 - n % 6), n + 1);
            Due.is("track", x.track(35 - 3 * n), n + 1);
        }
        for (int step : new int[] {0, 5}) {
            Due.is("a 13th step", x.row(step), -4);
        }
        for (int cell : new int[] {0, 35}) {
            Due.is("a 13th cell", x.track(cell), -4);
        }
        for (int n : new int[] {MIN, -2, 36, MAX}) {
            Due.is("no step, full", x.row(n), -1);
            Due.is("no cell, full", x.track(n), -1);
        }
        Due.is("no step 6, full", x.row(6), -1);
        Due.is("twelve steps", x.count(2), 12);
        Due.is("twelve cells", x.count(3), 12);
        Due.is("row(-1)", x.row(-1), 0);
        Due.is("no steps", x.count(2), 0);
        Due.is("twelve cells stay", x.count(3), 12);
        Due.is("track(-1)", x.track(-1), 0);
        Due.is("no cells", x.count(3), 0);
        Due.is("row(-1), empty", x.row(-1), 0);
        Due.is("track(-1), none", x.track(-1), 0);
        Due.is("a first", x.row(5), 1);
        Due.is("a first", x.track(0), 1);
    }

    // "0, and no TRACE then: no such WALKER, act": nothing else changes
    private static void acts() {
        int[][] wrong = {{-1, 0}, {Twin.WALKERS, 0}, {MIN, 1}, {MAX, 2}, {0, -1}, {0, 3}, {1, MIN}, {2, MAX}, {6, 3}};
        for (int[] call : wrong) {
            x = Twin.made();
            Due.is("bodies ahead", x.count(5), Twin.TRACE);
            Due.is("act" + Arrays.toString(call), x.act(call[0], call[1], 5), 0);
            Due.is("no bodies", x.count(5), 0);
            for (int k = 0; k <= Twin.TRACE; k++) {
                Due.is("no trace " + k, x.trace(k), -1);
            }
            x.act(3, 2, 5);
            Twin.unchanged("an act that there is not", x);
        }
    }

    // "NOTHING (-11): nothing is there; CAST (-12): another sort or KIND"
    private static void castsAndNothing() {
        x = Twin.made();
        int[] kinds = {2, 6, 4, 6};
        String[] under = {"0", "01", "02", "03", "014", "025", "036"};
        for (int walker = 0; walker < Twin.WALKERS; walker++) {
            for (int k = 0; k < 7; k++) {
                int want = under[kinds[walker]].indexOf('0' + k) >= 0 ? kinds[walker] : -12;
                Due.is("walker " + walker + " taken for " + k, x.taken(walker, k), want);
            }
        }
        for (int i : new int[] {MIN, -1, 0, 4, MAX}) {
            Due.is("nothing in 4", x.item(4, i, 1), -11);
            for (int other = 0; other < 6; other++) {
                Due.is("nothing from 4", x.shift(4, i, other, i, i), -11);
                Due.is("nothing in 4", x.shift(other, i, 4, i, i), -11);
            }
        }
        Due.is("no tape ahead of nothing", x.shift(4, 0, 6, 0, 0), -1);
        Due.is("no tape ahead of nothing", x.shift(-1, 0, 4, 0, 0), -1);
        Twin.unchanged("nothing", x);
        x = Twin.made();
        for (int i : new int[] {MIN, -1, 0, 4, 5, MAX}) {
            for (int tape = 1; tape < 4; tape++) {
                Due.is("no longs to judge", x.judge(tape, i), -12);
                Due.is("unlike sorts", x.shift(0, i, tape, 0, 1), -12);
                Due.is("unlike sorts", x.shift(tape, 0, 5, i, 1), -12);
                Due.is("unlike sorts", x.shift(tape, 0, tape % 3 + 1, 0, i), -12);
            }
        }
        Twin.unchanged("casts", x);
    }

    private static void tapeRefused() {
        x = Twin.made();
        for (int n : new int[] {MIN, -1, 61, MAX}) {
            for (int tape = 0; tape < 6; tape++) {
                for (int sort = 0; sort < 5; sort++) {
                    Due.is("tape of " + n, x.tape(tape, sort, n), n < 0 ? -14 : -2);
                }
            }
        }
        Twin.unchanged("tapes of no such size", x);
    }

    // "what is asked changes nothing"
    private static void asking() {
        x = Twin.made();
        for (int a = 0; a < Twin.WALKERS; a++) {
            for (int what = 0; what < 2; what++) {
                x.soonest(a, 35 * what, what);
                x.begin(a, 35 * what, what);
                x.meet(a, (a + 1) % Twin.WALKERS, what);
                x.lot(a, 14 + what, 6, what);
                x.hand(a, what + 1);
                x.slower(a, 20, 6 * what, 5);
            }
            x.reached(a, 60);
            x.never(a);
            x.home(a);
            x.judge(0, a);
            x.taken(a, 0);
        }
        for (int kind = 0; kind < 7; kind++) {
            x.tracks(kind, 9);
        }
        Twin.unchanged("asking", x);
    }
}
