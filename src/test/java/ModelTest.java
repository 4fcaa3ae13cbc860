import java.lang.reflect.InvocationTargetException;
import java.lang.reflect.Method;
import java.lang.reflect.Modifier;
import java.util.Arrays;
import java.util.Comparator;
import java.util.HashMap;
import java.util.Map;
import java.util.TreeMap;

/** All promises: long runs of calls, the same to the class and to PlainModel, whose answers must be alike. */
public final class ModelTest {
    private static final int RUNS = 240, CALLS = 400;
    private static final String[] LANDS = {
        "", "wall r=2&c>3", "on 3;back 2;wall d=1&!(s=5)", "on 1;back 1;stair c=2;ledge r=3",
        "on 4;back 4;door i<9|i>30;wall s=6", "wall r>0;on 2", "wall i=8|i=27;ledge d=2;door s=4;stair c=5&r<4",
        "back 3;ledge r=1|c=1;wall i=0", "on 4;wall !(r<3)&!(c<3)", "on 3;back 1;stair r=2;door c=3;ledge s=5",
        "wall d>1;on 3;back 3", "ledge i>17;on 2;back 2", "wall r=1&c<5|r=3&c>0;on 3;back 2", "wall !i<2",
        "on 2;back 4;wall (r=2|c=2)&!i=14", "stair !(r=0|r=5|c=0|c=5);on 1;back 2"
    };
    // what an argument may be: numbers below these, most of the time
    private static final Map<String, int[]> BOUNDS = new HashMap<>();

    static {
        BOUNDS.put("feed", new int[] {128});
        BOUNDS.put("told", new int[] {2});
        BOUNDS.put("ground", new int[] {36, 4});
        BOUNDS.put("walker", new int[] {7, 10, 36, 4});
        BOUNDS.put("of", new int[] {6, 7});
        BOUNDS.put("put", new int[] {6, 36, 4, 8});
        BOUNDS.put("may", new int[] {6});
        BOUNDS.put("step", new int[] {6, 6});
        BOUNDS.put("soonest", new int[] {6, 36, 2});
        BOUNDS.put("begin", new int[] {6, 36, 2});
        BOUNDS.put("reached", new int[] {6, 61});
        BOUNDS.put("never", new int[] {6});
        BOUNDS.put("meet", new int[] {6, 6, 2});
        BOUNDS.put("home", new int[] {6});
        BOUNDS.put("row", new int[] {6});
        BOUNDS.put("hand", new int[] {6, 3});
        BOUNDS.put("track", new int[] {36});
        BOUNDS.put("tracks", new int[] {7, 10});
        BOUNDS.put("lot", new int[] {6, 36, 7, 2});
        BOUNDS.put("slower", new int[] {6, 36, 7, 7});
        BOUNDS.put("judge", new int[] {6, 4});
        BOUNDS.put("act", new int[] {6, 3, 2000});
        BOUNDS.put("trace", new int[] {13});
        BOUNDS.put("taken", new int[] {6, 7});
        BOUNDS.put("count", new int[] {6});
        BOUNDS.put("tape", new int[] {6, 5, 12});
        BOUNDS.put("item", new int[] {6, 12, 40});
        BOUNDS.put("read", new int[] {6, 12});
        BOUNDS.put("shift", new int[] {6, 8, 6, 8, 5});
        BOUNDS.put("land", new int[0]);
        BOUNDS.put("image", new int[0]);
        BOUNDS.put("undo", new int[0]);
    }

    private static final Map<String, Integer> ANSWERED = new TreeMap<>();
    private static long seed = 20261118L;
    private static TwoOnOneBack x;
    private static PlainModel y;
    private static int run;

    public static void main(String[] args) throws ReflectiveOperationException {
        Method[] calls = Arrays.stream(TwoOnOneBack.class.getDeclaredMethods())
            .filter(m -> Modifier.isPublic(m.getModifiers()))
            .sorted(Comparator.comparing(Method::getName)).toArray(Method[]::new);
        Due.is("calls with bounds", calls.length, BOUNDS.size());
        for (run = 0; run < RUNS; run++) {
            x = new TwoOnOneBack();
            y = new PlainModel();
            start();
            for (int n = 0; n < CALLS; n++) {
                play(calls);
            }
        }
        for (Method call : calls) {
            Due.holds(call.getName() + " was answered by a number now and then",
                ANSWERED.getOrDefault(call.getName(), 0) > 20);
        }
        Due.end("ModelTest");
    }

    private static int below(int bound) {
        seed = seed * 6364136223846793005L + 1442695040888963407L;
        return (int) ((seed >>> 33) % bound);
    }

    private static void start() {
        feed(LANDS[run % LANDS.length]);
        int walkers = below(6);
        for (int k = 0; k < walkers; k++) {
            int kind = below(7), v = below(10), cell = below(36), way = below(4);
            Due.is("run " + run + " walker", x.walker(kind, v, cell, way), y.walker(kind, v, cell, way));
        }
    }

    private static void feed(String text) {
        for (int k = 0; k < text.length(); k++) {
            Due.is("run " + run + " feed", x.feed(text.charAt(k)), y.feed(text.charAt(k)));
        }
        int land = y.land();
        Due.is("run " + run + " land of " + text, x.land(), land);
        if (land >= 0) {
            ANSWERED.merge("land", 1, Integer::sum);
        }
    }

    private static void play(Method[] calls) throws ReflectiveOperationException {
        int lot = below(100);
        if (lot == 0) {
            feed(LANDS[below(LANDS.length)]);
        } else if (lot < 12) {
            walk();
        } else if (lot < 16) {
            leave();
        } else if (lot < 19) {
            tell();
        } else {
            Method call = calls[below(calls.length)];
            boolean rare = call.getName().equals("land") || call.getName().equals("undo") || call.getName().equals("feed");
            if (!rare || below(12) == 0) {
                any(call);
            }
        }
    }

    // a step that may be, so that runs get far
    private static void walk() {
        int walker = below(6);
        int steps = y.may(walker);
        Due.is("run " + run + " may", x.may(walker), steps);
        for (int k = below(6), n = 0; steps > 0 && n < 6; n++) {
            int step = (k + n) % 6;
            if ((steps >> step & 1) != 0) {
                Due.is("run " + run + " step", x.step(walker, step), y.step(walker, step));
                break;
            }
        }
    }

    // tracks that somebody might have left, mostly
    private static void leave() {
        int cell = below(36);
        Due.is("run " + run + " track", x.track(-1), y.track(-1));
        for (int n = below(12); n >= 0 && cell >= 0 && cell < 36; n--) {
            Due.is("run " + run + " track", x.track(cell), y.track(cell));
            int[] ways = {-6, 1, 6, -1, 0};
            cell += ways[below(20) == 0 ? 4 : below(4)];
        }
        int kind = below(7), v = below(10);
        Due.is("run " + run + " tracks", x.tracks(kind, v), y.tracks(kind, v));
    }

    // a row that the walker goes for a while
    private static void tell() {
        int walker = below(6);
        Due.is("run " + run + " row", x.row(-1), y.row(-1));
        for (int n = 0; n < 12; n++) {
            int before = y.hand(walker, 0);
            int step = below(6);
            Due.is("run " + run + " row", x.row(step), y.row(step));
            for (int what = 0; what < 3; what++) {
                Due.is("run " + run + " hand", x.hand(walker, what), y.hand(walker, what));
            }
            if (before < n) {
                return;
            }
        }
    }

    private static void any(Method call) throws ReflectiveOperationException {
        int[] bounds = BOUNDS.get(call.getName());
        Object[] args = new Object[bounds.length];
        for (int k = 0; k < bounds.length; k++) {
            long v = argument(bounds[k]);
            if (call.getParameterTypes()[k] == long.class) {
                args[k] = below(3) == 0 ? v * 0x100000001L * (below(2) * 2 - 1) << below(30) : v;
            } else {
                args[k] = (int) v;
            }
        }
        long got = answer(x, call, args);
        long want = answer(y, y.getClass().getMethod(call.getName(), call.getParameterTypes()), args);
        Due.is("run " + run + " " + call.getName() + Arrays.toString(args), got, want);
        if (want >= 0) {
            ANSWERED.merge(call.getName(), 1, Integer::sum);
        }
    }

    private static int argument(int bound) {
        int lot = below(60);
        if (lot == 0) {
            return new int[] {Integer.MIN_VALUE, Integer.MAX_VALUE, -2, bound + 1}[below(4)];
        }
        return lot == 1 ? -1 : lot == 2 ? bound : below(bound);
    }

    private static long answer(Object one, Method call, Object[] args) throws ReflectiveOperationException {
        try {
            return ((Number) call.invoke(one, args)).longValue();
        } catch (InvocationTargetException e) {
            throw new IllegalStateException("run " + run + " " + call.getName() + Arrays.toString(args), e.getCause());
        }
    }
}
