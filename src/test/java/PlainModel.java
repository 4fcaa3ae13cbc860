import java.util.ArrayList;
import java.util.Arrays;
import java.util.HashSet;
import java.util.List;
import java.util.Map;
import java.util.Set;
import java.util.TreeMap;

/** The document told once more, one state at a time, for the tests to compare with. */
public final class PlainModel {
    private static final long NO = Long.MIN_VALUE;

    /** Where one is: kind and v, and all that a step changes. */
    private record Spot(int kind, int v, int cell, int facing, int beat, int from, int gone) {
        Spot with(int newKind, int newV, int newBeat) {
            return new Spot(newKind, newV, cell, facing, newBeat, from, gone);
        }
    }

    private record Image(List<Spot> walkers, List<Integer> row, List<Integer> tracks, String land) {
    }

    private List<Spot> walkers = new ArrayList<>();
    private List<Integer> row = new ArrayList<>();
    private List<Integer> tracks = new ArrayList<>();
    private String land = "";
    private int lands;
    private String text = "";
    private Image image;
    private List<Integer> trace = new ArrayList<>();
    private final int[] sorts = {-1, -1, -1, -1, -1, -1};
    private final long[][] tapes = new long[6][0];
    private String read = null;
    private final boolean[][] marks = new boolean[4][36];

    // ---- lands

    public int feed(int sign) {
        if (sign < 0 || sign > 127) {
            return -2;
        }
        if (text.length() == 100) {
            return -4;
        }
        text += (char) sign;
        return text.length();
    }

    public int land() {
        if (lands == 6) {
            return -4;
        }
        int fault = LandText.fault(text);
        String told = text;
        text = "";
        if (fault >= 0) {
            return -10 - fault;
        }
        land = told;
        return lands++;
    }

    private int last(String word, int without) {
        int n = without;
        for (String clause : land.split(";")) {
            if (clause.startsWith(word + " ")) {
                n = Integer.parseInt(clause.substring(word.length() + 1));
            }
        }
        return n < 1 ? 1 : Math.min(n, 4);
    }

    private int on() {
        return last("on", 2);
    }

    private int rhythm() {
        return on() + last("back", 1);
    }

    private boolean is(int cell, int what) {
        if (!land.equals(read)) {
            read = land;
            for (int k = 0; k < 4; k++) {
                for (int c = 0; c < 36; c++) {
                    marks[k][c] = LandText.marks(land, new String[] {"wall", "ledge", "door", "stair"}[k], c);
                }
            }
        }
        return marks[what][cell];
    }

    public int told(int what) {
        return what == 0 ? on() : what == 1 ? rhythm() - on() : -1;
    }

    public int ground(int cell, int what) {
        if (out(cell, 36) || out(what, 4)) {
            return -1;
        }
        return is(cell, what) ? 1 : 0;
    }

    private static boolean out(int n, int bound) {
        return n < 0 || n >= bound;
    }

    public int walker(int kind, int v, int cell, int way) {
        if (out(kind, 7) || out(cell, 36) || out(way, 4)) {
            return -1;
        }
        if (out(v, 10)) {
            return -2;
        }
        if (is(cell, 0)) {
            return -3;
        }
        if (walkers.size() == 6) {
            return -4;
        }
        walkers.add(new Spot(kind, v, cell, way, 0, cell, 0));
        return walkers.size() - 1;
    }

    private boolean noWalker(int walker) {
        return out(walker, walkers.size());
    }

    public int of(int walker, int what) {
        if (noWalker(walker) || out(what, 7)) {
            return -1;
        }
        Spot s = walkers.get(walker);
        return new int[] {s.kind, s.v, s.cell, s.facing, s.beat % rhythm(), s.from, s.gone}[what];
    }

    public int put(int walker, int cell, int way, int beat) {
        if (noWalker(walker) || out(cell, 36) || out(way, 4)) {
            return -1;
        }
        if (out(beat, 8)) {
            return -2;
        }
        if (is(cell, 0)) {
            return -3;
        }
        Spot s = walkers.get(walker);
        walkers.set(walker, new Spot(s.kind, s.v, cell, way, beat, cell, s.gone));
        return s.cell;
    }

    // ---- steps

    private static int beside(int cell, int way) {
        int r = cell / 6 + (way == 0 ? -1 : way == 2 ? 1 : 0);
        int c = cell % 6 + (way == 1 ? 1 : way == 3 ? -1 : 0);
        return out(r, 6) || out(c, 6) ? -1 : 6 * r + c;
    }

    private boolean onMay(Spot s, int way) {
        int to = beside(s.cell, way);
        return to >= 0 && !is(to, 0) && (way == s.facing || !is(to, 1));
    }

    private int backCell(Spot s) {
        return s.kind == 2 || s.kind == 5 ? s.from : beside(s.cell, (s.facing + 2) % 4);
    }

    private List<Integer> steps(Spot s) {
        List<Integer> steps = new ArrayList<>();
        boolean dances = false;
        if (s.beat % rhythm() < on()) {
            for (int way = 0; way < 4; way++) {
                if (kindGoes(s, way) && onMay(s, way)) {
                    steps.add(way);
                }
            }
            dances = s.kind == 6 && s.v > 0 && s.gone % s.v == 0;
        } else {
            int to = backCell(s);
            if (to >= 0 && !is(to, 0) && !is(to, 1) && !is(s.cell, 2) && !is(s.cell, 3)) {
                steps.add(4);
            }
        }
        if (steps.isEmpty() || dances) {
            steps.add(5);
        }
        return steps;
    }

    private boolean kindGoes(Spot s, int way) {
        boolean ahead = way == s.facing;
        boolean across = way == (s.facing + 2) % 4;
        switch (s.kind) {
            case 1: return true;
            case 3: case 6: return ahead || !across && (s.gone + s.v) % 2 == 0;
            case 4: return way != s.v % 4;
            case 5: return ahead || !across && !onMay(s, s.facing);
            default: return !across;
        }
    }

    private Spot behind(Spot s, int step) {
        int beat = s.beat % rhythm() + 1 == rhythm() ? 0 : s.beat % rhythm() + 1;
        if (step == 5) {
            return new Spot(s.kind, s.v, s.cell, s.facing, beat, s.from, s.gone + 1);
        }
        if (step == 4) {
            return new Spot(s.kind, s.v, backCell(s), s.facing, beat, s.cell, s.gone + 1);
        }
        return new Spot(s.kind, s.v, beside(s.cell, step), step, beat, s.cell, s.gone + 1);
    }

    private Set<Spot> behind(Set<Spot> spots) {
        Set<Spot> then = new HashSet<>();
        for (Spot s : spots) {
            for (int step : steps(s)) {
                then.add(behind(s, step));
            }
        }
        return then;
    }

    private static boolean anyIn(Set<Spot> spots, int cell) {
        return spots.stream().anyMatch(s -> s.cell == cell);
    }

    public int may(int walker) {
        return noWalker(walker) ? -1 : steps(walkers.get(walker)).stream().mapToInt(s -> 1 << s).sum();
    }

    public int step(int walker, int step) {
        if (noWalker(walker) || out(step, 6)) {
            return -1;
        }
        if (!steps(walkers.get(walker)).contains(step)) {
            return -3;
        }
        walkers.set(walker, behind(walkers.get(walker), step));
        return walkers.get(walker).cell;
    }

    // ---- ways

    private int[] fewest(Spot start, int cell) {
        if (start.cell == cell) {
            return new int[] {0, -5};
        }
        Map<Integer, Set<Spot>> byFirst = new TreeMap<>();
        for (int step : steps(start)) {
            byFirst.put(step, new HashSet<>(Set.of(behind(start, step))));
        }
        for (int beats = 1; beats <= 60; beats++) {
            for (Map.Entry<Integer, Set<Spot>> e : byFirst.entrySet()) {
                if (anyIn(e.getValue(), cell)) {
                    return new int[] {beats, e.getKey()};
                }
            }
            byFirst.replaceAll((first, spots) -> behind(spots));
        }
        return new int[] {-5, -5};
    }

    public int soonest(int walker, int cell, int what) {
        return noWalker(walker) || out(cell, 36) || out(what, 2) ? -1 : fewest(walkers.get(walker), cell)[what];
    }

    public int begin(int walker, int cell, int what) {
        if (noWalker(walker) || out(cell, 36) || out(what, 2)) {
            return -1;
        }
        int[] best = {-5, -5};
        for (int beat = rhythm() - 1; beat >= 0; beat--) {
            Spot s = walkers.get(walker);
            int beats = fewest(s.with(s.kind, s.v, beat), cell)[0];
            if (beats >= 0 && (best[1] < 0 || beats <= best[1])) {
                best = new int[] {beat, beats};
            }
        }
        return best[what];
    }

    public long reached(int walker, int n) {
        if (noWalker(walker) || out(n, 61)) {
            return NO;
        }
        long cells = 0;
        Set<Spot> spots = new HashSet<>(Set.of(walkers.get(walker)));
        for (int beats = 0; beats <= n; beats++) {
            for (Spot s : spots) {
                cells |= 1L << s.cell;
            }
            spots = behind(spots);
        }
        return cells;
    }

    public long never(int walker) {
        if (noWalker(walker)) {
            return NO;
        }
        long cells = 0;
        long met = reached(walker, 60);
        for (int cell = 0; cell < 36; cell++) {
            if (!is(cell, 0) && (met >> cell & 1) == 0) {
                cells |= 1L << cell;
            }
        }
        return cells;
    }

    public int meet(int a, int b, int what) {
        if (noWalker(a) || noWalker(b) || out(what, 2)) {
            return -1;
        }
        if (a == b) {
            return -2;
        }
        Set<Spot> one = new HashSet<>(Set.of(walkers.get(a)));
        Set<Spot> other = new HashSet<>(Set.of(walkers.get(b)));
        for (int beats = 0; beats <= 40; beats++) {
            for (int cell = 0; cell < 36; cell++) {
                if (anyIn(one, cell) && anyIn(other, cell)) {
                    return what == 0 ? beats : cell;
                }
            }
            one = behind(one);
            other = behind(other);
        }
        return -5;
    }

    public int home(int walker) {
        if (noWalker(walker)) {
            return -1;
        }
        Spot start = walkers.get(walker);
        Set<Spot> spots = new HashSet<>(Set.of(start));
        for (int beats = 1; beats <= 60; beats++) {
            spots = behind(spots);
            for (Spot s : spots) {
                if (s.cell == start.cell && s.facing == start.facing && s.beat == start.beat % rhythm()) {
                    return beats;
                }
            }
        }
        return -5;
    }

    // ---- rows, tracks

    private static int add(List<Integer> list, int n, int bound) {
        if (n == -1) {
            list.clear();
            return 0;
        }
        if (out(n, bound)) {
            return -1;
        }
        if (list.size() == 12) {
            return -4;
        }
        list.add(n);
        return list.size();
    }

    public int row(int step) {
        return add(row, step, 6);
    }

    public int hand(int walker, int what) {
        if (noWalker(walker) || out(what, 3)) {
            return -1;
        }
        Spot s = walkers.get(walker);
        int n = 0;
        for (int step : row) {
            if (!steps(s).contains(step)) {
                break;
            }
            s = behind(s, step);
            n++;
        }
        return new int[] {n, s.cell, s.facing}[what];
    }

    public int track(int cell) {
        return add(tracks, cell, 36);
    }

    public int tracks(int kind, int v) {
        if (out(kind, 7)) {
            return -1;
        }
        if (out(v, 10)) {
            return -2;
        }
        int beats = 0;
        for (int beat = 0; beat < rhythm(); beat++) {
            beats |= tracks.isEmpty() || read(kind, v, beat) ? 1 << beat : 0;
        }
        return beats;
    }

    private boolean read(int kind, int v, int beat) {
        for (int facing = 0; facing < 4; facing++) {
            if (follows(new Spot(kind, v, tracks.get(0), facing, beat, tracks.get(0), 0), 1)) {
                return true;
            }
        }
        return false;
    }

    private boolean follows(Spot s, int n) {
        if (n == tracks.size()) {
            return true;
        }
        for (int step : steps(s)) {
            Spot then = behind(s, step);
            if (then.cell == tracks.get(n) && follows(then, n + 1)) {
                return true;
            }
        }
        return false;
    }

    // ---- lots

    /** A fraction, above and below the line, in lowest terms. */
    private static long[] sum(long[] a, long[] b) {
        long above = a[0] * b[1] + b[0] * a[1];
        long below = a[1] * b[1];
        long common = java.math.BigInteger.valueOf(above).gcd(java.math.BigInteger.valueOf(below)).longValue();
        return new long[] {above / common, below / common};
    }

    private long[] odds(Spot s, int cell, int n) {
        if (n == 0) {
            return new long[] {s.cell == cell ? 1 : 0, 1};
        }
        long[] all = {0, 1};
        List<Integer> steps = steps(s);
        for (int step : steps) {
            long[] part = odds(behind(s, step), cell, n - 1);
            all = sum(all, new long[] {part[0], part[1] * steps.size()});
        }
        return all;
    }

    public long lot(int walker, int cell, int n, int part) {
        if (noWalker(walker) || out(cell, 36) || out(n, 7) || out(part, 2)) {
            return NO;
        }
        return odds(walkers.get(walker), cell, n)[part];
    }

    public int slower(int walker, int cell, int kind, int other) {
        if (noWalker(walker) || out(cell, 36) || out(kind, 7) || out(other, 7)) {
            return -1001;
        }
        Spot s = walkers.get(walker);
        int a = fewest(s.with(kind, 0, s.beat), cell)[0];
        int b = fewest(s.with(other, 0, s.beat), cell)[0];
        return a < 0 || b < 0 ? -1000 : a - b;
    }

    // ---- judging, the image, acts, tapes

    public int judge(int tape, int i) {
        if (out(tape, 6)) {
            return -1;
        }
        if (sorts[tape] != -1 && sorts[tape] != 3) {
            return -12;
        }
        for (int w = 0; w < walkers.size(); w++) {
            if (i < 0 || (long) i + w >= tapes[tape].length) {
                return 100 + w;
            }
            if (tapes[tape][i + w] != walkers.get(w).cell) {
                return w;
            }
        }
        return -5;
    }

    public int image() {
        image = new Image(List.copyOf(walkers), List.copyOf(row), List.copyOf(tracks), land);
        return walkers.size();
    }

    public int undo() {
        if (image == null) {
            return -3;
        }
        walkers = new ArrayList<>(image.walkers);
        row = new ArrayList<>(image.row);
        tracks = new ArrayList<>(image.tracks);
        land = image.land;
        return walkers.size();
    }

    // The bodies as a tree of classes, as the document's own words are: super is Java's.
    private class Walking {
        int i;
        int v;

        int steps(int x) {
            trace.add(10);
            return x + i;
        }

        int turns(int x) {
            trace.add(11);
            return steps(x) - v;
        }

        int tells(int x) {
            trace.add(12);
            return turns(x) * 2;
        }
    }

    private class Turning extends Walking {
        @Override
        int turns(int x) {
            trace.add(20);
            return super.turns(x) ^ 6;
        }
    }

    private class Rounding extends Walking {
        @Override
        int steps(int x) {
            trace.add(30);
            return super.steps(x * 3);
        }
    }

    private class Laming extends Walking {
        @Override
        int tells(int x) {
            trace.add(40);
            return super.tells(x) + turns(1);
        }
    }

    private class Leading extends Turning {
        @Override
        int steps(int x) {
            trace.add(50);
            return -super.steps(x);
        }

        @Override
        int turns(int x) {
            trace.add(51);
            return super.turns(x + 1);
        }
    }

    private class Blinding extends Rounding {
        @Override
        int tells(int x) {
            trace.add(60);
            return super.tells(x - i);
        }
    }

    private class Dancing extends Laming {
        @Override
        int turns(int x) {
            trace.add(70);
            return super.turns(x) + super.steps(2);
        }

        @Override
        int steps(int x) {
            trace.add(71);
            return super.steps(x) ^ v;
        }
    }

    private Walking body(int kind) {
        Walking[] all = {new Walking(), new Turning(), new Rounding(), new Laming(), new Leading(), new Blinding(),
            new Dancing()};
        return all[kind];
    }

    public int act(int walker, int act, int x) {
        trace = new ArrayList<>();
        if (noWalker(walker) || out(act, 3)) {
            return 0;
        }
        Walking one = body(walkers.get(walker).kind);
        one.i = walker;
        one.v = walkers.get(walker).v;
        return act == 0 ? one.steps(x) : act == 1 ? one.turns(x) : one.tells(x);
    }

    public int trace(int i) {
        return out(i, Math.min(20, trace.size())) ? -1 : trace.get(i);
    }

    public int taken(int walker, int k) {
        if (out(k, 7)) {
            return -2;
        }
        if (noWalker(walker)) {
            return -11;
        }
        int kind = walkers.get(walker).kind;
        return body(k).getClass().isInstance(body(kind)) ? kind : -12;
    }

    public int count(int what) {
        int[] all = {walkers.size(), lands, row.size(), tracks.size(), text.length(), trace.size()};
        return out(what, 6) ? -2 : all[what];
    }

    public int tape(int tape, int sort, int n) {
        if (out(tape, 6)) {
            return -1;
        }
        if (sort != -1 && (out(sort, 5) || n > 60)) {
            return -2;
        }
        if (sort != -1 && n < 0) {
            return -14;
        }
        sorts[tape] = sort;
        tapes[tape] = new long[sort == -1 ? 0 : n];
        return 1;
    }

    public int item(int tape, int i, long v) {
        if (out(tape, 6)) {
            return -1;
        }
        if (sorts[tape] == -1) {
            return -11;
        }
        if (out(i, tapes[tape].length)) {
            return -13;
        }
        int bits = new int[] {8, 16, 32, 64, 1}[sorts[tape]];
        tapes[tape][i] = bits == 1 ? v == 0 ? 0 : 1 : v << 64 - bits >> 64 - bits;
        return 1;
    }

    public long read(int tape, int i) {
        return out(tape, 6) || out(i, tapes[tape].length) ? NO : tapes[tape][i];
    }

    public int shift(int tape, int i, int other, int j, int n) {
        if (out(tape, 6) || out(other, 6)) {
            return -1;
        }
        if (sorts[tape] == -1 || sorts[other] == -1) {
            return -11;
        }
        if (sorts[tape] != sorts[other]) {
            return -12;
        }
        if (n < 0 || i < 0 || j < 0 || (long) i + n > tapes[tape].length || (long) j + n > tapes[other].length) {
            return -13;
        }
        long[] items = Arrays.copyOfRange(tapes[tape], i, i + n);
        for (int k = 0; k < n; k++) {
            tapes[other][j + k] = items[k];
        }
        return n;
    }
}
