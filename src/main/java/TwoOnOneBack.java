import java.util.Arrays;

/** Walkers on a ground of 36 cells who step by a told rhythm; words in capitals are those of the document. */
public final class TwoOnOneBack {
    public static final int NONE = -1, BAD = -2, STATE = -3, FULL = -4;
    public static final long NO = Long.MIN_VALUE;

    private static final int NOTHING = -11, CAST = -12, PLACE = -13, SIZE = -14;
    private static final int NO_WAY = -5, NO_LESS = -1000, NO_SUCH = -1001, FAULTY = -10, SHORT = 100;

    private static final int WALKER = 0, TURNER = 1, ROUND = 2, LAME = 3, LED = 4, BLIND = 5, DANCER = 6;
    private static final int KINDS = 7, NUMBERS = 10;

    private static final int CELLS = 36, WAYS = 4, BEATS = 8;
    private static final long GROUND = (1L << CELLS) - 1, LEFT = 0x41041041L, RIGHT = LEFT << 5;

    // behind the four WAYS: where one came from, if that is its own CELL
    private static final int HERE = 4, SIDES = 5;

    private static final int BACK = 4, STAND = 5, STEPS = 6, ANY_STEP = 63;

    private static final int MOST_SIGNS = 100, MOST_CLAUSES = 10, MOST_WITHIN = 4, MOST_LANDS = 6;
    private static final int MOST_WALKERS = 6, MOST_TOLD = 12, MOST_TRACE = 20;
    private static final int MOST_BEATS = 60, MOST_TO_MEET = 40, MOST_BY_LOT = 6;
    private static final int TAPES = 6, MOST_ITEMS = 60;
    private static final int BYTES = 0, SHORTS = 1, INTS = 2, LONGS = 3, BOOLEANS = 4, EMPTY = -1;

    // a multiple of 1 to 4: in no beat MAY more STEPS be
    private static final int SHARES = 12;

    private final Text text = new Text();
    private final Scene now, kept;
    private final Gait gait;
    private final Walker trial = new Walker();
    private final Crowd crowd, others;
    private final Lots lots;
    private final Bodies bodies = new Bodies();
    private final Tape[] tapes = new Tape[TAPES];
    private int lands;
    private boolean imaged;

    public TwoOnOneBack() {
        Land bare = new Land(2, 1, new long[4]);
        now = new Scene(bare);
        kept = new Scene(bare);
        gait = new Gait(bare);
        crowd = new Crowd(bare);
        others = new Crowd(bare);
        lots = new Lots(bare);
        for (int k = 0; k < TAPES; k++) {
            tapes[k] = new Tape();
        }
    }

    // ---- lands, walkers

    public int feed(int sign) {
        if (sign < 0 || sign > 127) {
            return BAD;
        }
        return text.add(sign) ? text.length : FULL;
    }

    public int land() {
        if (lands >= MOST_LANDS) {
            return FULL;
        }
        Land next = text.parsed();
        text.length = 0;
        if (next == null) {
            return FAULTY - text.at;
        }
        now.land = next;
        lands++;
        return lands - 1;
    }

    public int told(int what) {
        switch (what) {
            case 0: return now.land.on;
            case 1: return now.land.back;
            default: return NONE;
        }
    }

    public int ground(int cell, int what) {
        if (!isCell(cell) || what < 0 || what > 3) {
            return NONE;
        }
        return holds(now.land.marked(what), cell) ? 1 : 0;
    }

    public int walker(int kind, int v, int cell, int way) {
        if (!isKind(kind) || !isCell(cell) || !isWay(way)) {
            return NONE;
        }
        if (!isNumber(v)) {
            return BAD;
        }
        if (holds(now.land.walls, cell)) {
            return STATE;
        }
        Walker added = now.added();
        if (added == null) {
            return FULL;
        }
        added.kind = kind;
        added.v = v;
        added.gone = 0;
        added.stands(cell, way, 0);
        return now.walkers - 1;
    }

    public int of(int walker, int what) {
        Walker one = now.who(walker);
        if (one == null) {
            return NONE;
        }
        switch (what) {
            case 0: return one.kind;
            case 1: return one.v;
            case 2: return one.cell;
            case 3: return one.facing;
            case 4: return now.land.beat(one.beat);
            case 5: return next(one.cell, one.came);
            case 6: return one.gone;
            default: return NONE;
        }
    }

    public int put(int walker, int cell, int way, int beat) {
        Walker one = now.who(walker);
        if (one == null || !isCell(cell) || !isWay(way)) {
            return NONE;
        }
        if (beat < 0 || beat >= BEATS) {
            return BAD;
        }
        if (holds(now.land.walls, cell)) {
            return STATE;
        }
        int before = one.cell;
        one.stands(cell, way, beat);
        return before;
    }

    // ---- steps

    public int may(int walker) {
        Walker one = now.who(walker);
        return one == null ? NONE : allowed(one);
    }

    public int step(int walker, int step) {
        Walker one = now.who(walker);
        if (one == null || !isStep(step)) {
            return NONE;
        }
        return goes(one, step) ? one.cell : STATE;
    }

    private int allowed(Walker one) {
        gait.become(now.land, one.kind, one.v, one.beat, one.gone);
        return gait.steps(one.cell, one.facing, one.came);
    }

    private boolean goes(Walker one, int step) {
        if ((allowed(one) >> step & 1) == 0) {
            return false;
        }
        int way = gait.way(step, one.facing, one.came);
        one.came = cameBy(step, way, one.came);
        one.facing = facingBy(step, one.facing);
        one.cell = next(one.cell, way);
        gait.tick();
        one.beat = gait.beat;
        one.gone = gait.gone;
        return true;
    }

    // ---- ways

    public int soonest(int walker, int cell, int what) {
        Walker one = now.who(walker);
        if (one == null || !isCell(cell) || !isPart(what)) {
            return NONE;
        }
        crowd.alone(now.land, one);
        int beats = crowd.beatsTo(cell);
        return what == 0 ? beats : firstStep(one, cell, beats);
    }

    private int firstStep(Walker one, int cell, int beats) {
        for (int step = 0; step < STEPS && beats > 0; step++) {
            crowd.alone(now.land, one);
            crowd.advance(1 << step);
            for (int n = 1; n < beats; n++) {
                crowd.advance(ANY_STEP);
            }
            if (holds(crowd.cells(), cell)) {
                return step;
            }
        }
        return NO_WAY;
    }

    public int begin(int walker, int cell, int what) {
        Walker one = now.who(walker);
        if (one == null || !isCell(cell) || !isPart(what)) {
            return NONE;
        }
        int best = NO_WAY;
        int fewest = NO_WAY;
        for (int beat = 0; beat < now.land.rhythm(); beat++) {
            crowd.alone(now.land, one, one.kind, one.v, beat);
            int beats = crowd.beatsTo(cell);
            if (beats >= 0 && (best < 0 || beats < fewest)) {
                best = beat;
                fewest = beats;
            }
        }
        return what == 0 ? best : fewest;
    }

    public long reached(int walker, int n) {
        Walker one = now.who(walker);
        return one == null || n < 0 || n > MOST_BEATS ? NO : within(one, n);
    }

    public long never(int walker) {
        Walker one = now.who(walker);
        return one == null ? NO : GROUND & ~now.land.walls & ~within(one, MOST_BEATS);
    }

    private long within(Walker one, int beats) {
        crowd.alone(now.land, one);
        long cells = crowd.cells();
        for (int n = 0; n < beats; n++) {
            crowd.advance(ANY_STEP);
            cells |= crowd.cells();
        }
        return cells;
    }

    public int meet(int a, int b, int what) {
        Walker one = now.who(a);
        Walker other = now.who(b);
        if (one == null || other == null || !isPart(what)) {
            return NONE;
        }
        if (a == b) {
            return BAD;
        }
        crowd.alone(now.land, one);
        others.alone(now.land, other);
        for (int beats = 0; beats <= MOST_TO_MEET; beats++) {
            long both = crowd.cells() & others.cells();
            if (both != 0L) {
                return what == 0 ? beats : Long.numberOfTrailingZeros(both);
            }
            crowd.advance(ANY_STEP);
            others.advance(ANY_STEP);
        }
        return NO_WAY;
    }

    public int home(int walker) {
        Walker one = now.who(walker);
        if (one == null) {
            return NONE;
        }
        crowd.alone(now.land, one);
        int beat = crowd.gait.beat;
        for (int beats = 1; beats <= MOST_BEATS; beats++) {
            crowd.advance(ANY_STEP);
            if (crowd.gait.beat == beat && holds(crowd.facing(one.facing), one.cell)) {
                return beats;
            }
        }
        return NO_WAY;
    }

    // ---- rows, tracks

    public int row(int step) {
        return step >= -1 && step < STEPS ? now.row.tell(step) : NONE;
    }

    public int hand(int walker, int what) {
        Walker one = now.who(walker);
        if (one == null || what < 0 || what > 2) {
            return NONE;
        }
        trial.become(one);
        int done = 0;
        while (done < now.row.length && goes(trial, now.row.at(done))) {
            done++;
        }
        switch (what) {
            case 0: return done;
            case 1: return trial.cell;
            default: return trial.facing;
        }
    }

    public int track(int cell) {
        return cell >= -1 && cell < CELLS ? now.tracks.tell(cell) : NONE;
    }

    public int tracks(int kind, int v) {
        if (!isKind(kind)) {
            return NONE;
        }
        if (!isNumber(v)) {
            return BAD;
        }
        int beats = 0;
        for (int beat = 0; beat < now.land.rhythm(); beat++) {
            if (now.tracks.length == 0 || left(kind, v, beat)) {
                beats |= 1 << beat;
            }
        }
        return beats;
    }

    /** Whether one who began at a BEAT might have left the TRACKS. */
    private boolean left(int kind, int v, int beat) {
        crowd.around(now.land, now.tracks.at(0), kind, v, beat);
        for (int n = 1; n < now.tracks.length; n++) {
            crowd.advance(ANY_STEP);
            crowd.keep(now.tracks.at(n));
        }
        return crowd.cells() != 0L;
    }

    // ---- lots

    public long lot(int walker, int cell, int n, int part) {
        Walker one = now.who(walker);
        if (one == null || !isCell(cell) || n < 0 || n > MOST_BY_LOT || !isPart(part)) {
            return NO;
        }
        lots.alone(now.land, one);
        long below = 1L;
        for (int beat = 0; beat < n; beat++) {
            lots.advance();
            below *= SHARES;
        }
        long above = lots.shares(cell);
        long common = common(below, above);
        return common == 0L ? NO : (part == 0 ? above : below) / common;
    }

    public int slower(int walker, int cell, int kind, int other) {
        Walker one = now.who(walker);
        if (one == null || !isCell(cell) || !isKind(kind) || !isKind(other)) {
            return NO_SUCH;
        }
        crowd.alone(now.land, one, kind, 0, one.beat);
        int beats = crowd.beatsTo(cell);
        crowd.alone(now.land, one, other, 0, one.beat);
        int less = crowd.beatsTo(cell);
        return beats < 0 || less < 0 ? NO_LESS : beats - less;
    }

    // ---- judging, the image, acts, tapes

    public int judge(int tape, int i) {
        Tape told = tapeAt(tape);
        if (told == null) {
            return NONE;
        }
        if (told.sort != EMPTY && told.sort != LONGS) {
            return CAST;
        }
        for (int k = 0; k < now.walkers; k++) {
            Walker one = now.who(k);
            if (!told.has((long) i + k)) {
                return SHORT + k;
            }
            if (one == null || told.value(i + k) != one.cell) {
                return k;
            }
        }
        return NO_WAY;
    }

    public int image() {
        kept.become(now);
        imaged = true;
        return now.walkers;
    }

    public int undo() {
        if (!imaged) {
            return STATE;
        }
        now.become(kept);
        return now.walkers;
    }

    public int act(int walker, int act, int x) {
        bodies.ran = 0;
        Walker one = now.who(walker);
        if (one == null) {
            return 0;
        }
        bodies.become(one.kind, one.v, walker);
        switch (act) {
            case 0: return bodies.steps(x);
            case 1: return bodies.turns(x);
            case 2: return bodies.tells(x);
            default: return 0;
        }
    }

    public int trace(int i) {
        return i >= 0 && i < bodies.ran && i < MOST_TRACE ? bodies.trace[i] : NONE;
    }

    public int taken(int walker, int k) {
        if (!isKind(k)) {
            return BAD;
        }
        Walker one = now.who(walker);
        if (one == null) {
            return NOTHING;
        }
        return isUnder(one.kind, k) ? one.kind : CAST;
    }

    public int count(int what) {
        switch (what) {
            case 0: return now.walkers;
            case 1: return lands;
            case 2: return now.row.length;
            case 3: return now.tracks.length;
            case 4: return text.length;
            case 5: return bodies.ran;
            default: return BAD;
        }
    }

    public int tape(int tape, int sort, int n) {
        Tape told = tapeAt(tape);
        if (told == null) {
            return NONE;
        }
        if (sort < EMPTY || sort > BOOLEANS || sort != EMPTY && n > MOST_ITEMS) {
            return BAD;
        }
        if (sort != EMPTY && n < 0) {
            return SIZE;
        }
        told.become(sort, sort == EMPTY ? 0 : n);
        return 1;
    }

    public int item(int tape, int i, long v) {
        Tape told = tapeAt(tape);
        if (told == null) {
            return NONE;
        }
        if (told.sort == EMPTY) {
            return NOTHING;
        }
        if (!told.has(i)) {
            return PLACE;
        }
        told.write(i, v);
        return 1;
    }

    public long read(int tape, int i) {
        Tape told = tapeAt(tape);
        return told == null || !told.has(i) ? NO : told.value(i);
    }

    public int shift(int tape, int i, int other, int j, int n) {
        Tape source = tapeAt(tape);
        Tape target = tapeAt(other);
        if (source == null || target == null) {
            return NONE;
        }
        if (source.sort == EMPTY || target.sort == EMPTY) {
            return NOTHING;
        }
        if (source.sort != target.sort) {
            return CAST;
        }
        if (!source.reaches(i, n) || !target.reaches(j, n)) {
            return PLACE;
        }
        System.arraycopy(source.items, i, target.items, j, n);
        return n;
    }

    private Tape tapeAt(int tape) {
        return tape >= 0 && tape < TAPES ? tapes[tape] : null;
    }

    // ---- numbers, WAYS, KINDS

    private static boolean isCell(int cell) {
        return cell >= 0 && cell < CELLS;
    }

    private static boolean isWay(int way) {
        return way >= 0 && way < WAYS;
    }

    private static boolean isKind(int kind) {
        return kind >= 0 && kind < KINDS;
    }

    private static boolean isNumber(int v) {
        return v >= 0 && v < NUMBERS;
    }

    private static boolean isStep(int step) {
        return step >= 0 && step < STEPS;
    }

    private static boolean isPart(int part) {
        return part == 0 || part == 1;
    }

    private static boolean holds(long cells, int cell) {
        return (cells >>> cell & 1L) != 0L;
    }

    private static int across(int way) {
        return way + 2 & 3;
    }

    private static int next(int cell, int way) {
        switch (way) {
            case 0: return cell - 6;
            case 1: return cell + 1;
            case 2: return cell + 6;
            case 3: return cell - 1;
            default: return cell;
        }
    }

    /** CELLS as bits, each gone one further by a WAY; those that would leave THE GROUND drop out. */
    private static long moved(long cells, int way) {
        switch (way) {
            case 0: return cells >>> 6;
            case 1: return (cells & ~RIGHT) << 1;
            case 2: return cells << 6 & GROUND;
            case 3: return (cells & ~LEFT) >>> 1;
            default: return cells;
        }
    }

    private static int facingBy(int step, int facing) {
        return step < WAYS ? step : facing;
    }

    private static int cameBy(int step, int way, int came) {
        if (step == STAND) {
            return came;
        }
        return way == HERE ? HERE : across(way);
    }

    /** The KIND above another one, EMPTY above WALKER. */
    private static int above(int kind) {
        switch (kind) {
            case TURNER: case ROUND: case LAME: return WALKER;
            case LED: return TURNER;
            case BLIND: return ROUND;
            case DANCER: return LAME;
            default: return EMPTY;
        }
    }

    private static boolean isUnder(int kind, int top) {
        int at = kind;
        for (int n = 0; n < KINDS && at != EMPTY; n++) {
            if (at == top) {
                return true;
            }
            at = above(at);
        }
        return false;
    }

    private static long common(long a, long b) {
        long great = a;
        long rest = b;
        for (int n = 0; n < 1000 && rest != 0L; n++) {
            long less = great % rest;
            great = rest;
            rest = less;
        }
        return great;
    }

    /** A LAND as its CLAUSES leave it; sets of CELLS are bits. */
    private static final class Land {
        final int on, back;
        final long walls, ledges, doors, stairs;
        private final long[] open = new long[WAYS];
        private final long[] flat = new long[WAYS];
        private final long firm, still;

        Land(int on, int back, long[] marks) {
            this.on = on;
            this.back = back;
            boolean whole = marks != null && marks.length == 4;
            walls = whole ? marks[0] : 0L;
            ledges = whole ? marks[1] : 0L;
            doors = whole ? marks[2] : 0L;
            stairs = whole ? marks[3] : 0L;
            firm = GROUND & ~doors & ~stairs;
            still = firm & ~walls & ~ledges;
            for (int way = 0; way < WAYS; way++) {
                open[way] = moved(GROUND & ~walls, across(way));
                flat[way] = moved(GROUND & ~walls & ~ledges, across(way));
            }
        }

        int rhythm() {
            return on + back;
        }

        int beat(int told) {
            int all = rhythm();
            return all > 0 ? told % all : 0;
        }

        long marked(int what) {
            switch (what) {
                case 0: return walls;
                case 1: return ledges;
                case 2: return doors;
                default: return stairs;
            }
        }

        /** CELLS out of which one FACING so might go ON by a WAY, if its KIND did. */
        long onward(int way, int facing) {
            return way == facing ? open[way & 3] : flat[way & 3];
        }

        /** CELLS out of which one might go back by a WAY, or into its own (HERE). */
        long backward(int way) {
            return way == HERE ? still : flat[way & 3] & firm;
        }
    }

    /** THE TEXT, and its reader: that stops at the FAULT. */
    private static final class Text {
        private final byte[] signs = new byte[MOST_SIGNS];
        private final long[] marks = new long[4];
        private int on, back;
        private boolean wrong;
        int length, at;

        boolean add(int sign) {
            if (length < 0 || length >= MOST_SIGNS) {
                return false;
            }
            signs[length] = (byte) sign;
            length++;
            return true;
        }

        /** The LAND that THE TEXT is; null, and the FAULT is in at. */
        Land parsed() {
            at = 0;
            wrong = false;
            on = 2;
            back = 1;
            Arrays.fill(marks, 0L);
            clause();
            for (int n = 1; n < MOST_CLAUSES && takes(';'); n++) {
                clause();
            }
            return wrong || at < length ? null : new Land(on, back, marks);
        }

        private void clause() {
            if (takes('o')) {
                needs("n ");
                on = Math.max(1, Math.min(4, number()));
            } else if (takes('b')) {
                needs("ack ");
                back = Math.max(1, Math.min(4, number()));
            } else if (takes('w')) {
                needs("all ");
                marks[0] |= either(0);
            } else if (takes('l')) {
                needs("edge ");
                marks[1] |= either(0);
            } else if (takes('d')) {
                needs("oor ");
                marks[2] |= either(0);
            } else {
                needs("stair ");
                marks[3] |= either(0);
            }
        }

        private long either(int within) {
            long cells = both(within);
            for (int n = 0; n < MOST_SIGNS && takes('|'); n++) {
                cells |= both(within);
            }
            return cells;
        }

        private long both(int within) {
            long cells = single(within);
            for (int n = 0; n < MOST_SIGNS && takes('&'); n++) {
                cells &= single(within);
            }
            return cells;
        }

        private long single(int within) {
            if (within < MOST_WITHIN && takes('!')) {
                return GROUND & ~single(within + 1);
            }
            if (within < MOST_WITHIN && takes('(')) {
                long cells = either(within + 1);
                needs(")");
                return cells;
            }
            int letter = oneOf("rcsdi");
            int sign = oneOf("<=>");
            return tested(letter, sign, number());
        }

        private static long tested(int letter, int sign, int number) {
            long cells = 0L;
            for (int cell = 0; cell < CELLS; cell++) {
                if (Integer.compare(measure(letter, cell), number) == sign - 1) {
                    cells |= 1L << cell;
                }
            }
            return cells;
        }

        private static int measure(int letter, int cell) {
            int r = cell / 6;
            int c = cell % 6;
            switch (letter) {
                case 0: return r;
                case 1: return c;
                case 2: return r + c;
                case 3: return Math.abs(r - c);
                default: return cell;
            }
        }

        private int number() {
            int first = oneIf("0123456789");
            if (first < 0) {
                wrong = true;
                return 0;
            }
            int second = oneIf("0123456789");
            return second < 0 ? first : 10 * first + second;
        }

        private int oneOf(String choice) {
            int which = oneIf(choice);
            wrong = wrong || which < 0;
            return which;
        }

        // once it is wrong nothing is taken, here or in takes: so at stays where the FAULT is
        private int oneIf(String choice) {
            if (wrong || at < 0 || at >= length || at >= MOST_SIGNS) {
                return -1;
            }
            for (int k = 0; k < choice.length(); k++) {
                if (signs[at] == choice.charAt(k)) {
                    at++;
                    return k;
                }
            }
            return -1;
        }

        private void needs(String word) {
            for (int k = 0; k < word.length(); k++) {
                wrong = !takes(word.charAt(k)) || wrong;
            }
        }

        private boolean takes(char sign) {
            if (wrong || at < 0 || at >= length || at >= MOST_SIGNS || signs[at] != sign) {
                return false;
            }
            at++;
            return true;
        }
    }

    private static final class Walker {
        int kind, v, cell, facing, beat, gone;
        // the WAY to the CELL from which it came: that is always a next one, or its own
        int came = HERE;

        void stands(int cell, int way, int beat) {
            this.cell = cell;
            this.facing = way;
            this.beat = beat;
            this.came = HERE;
        }

        void become(Walker other) {
            kind = other.kind;
            v = other.v;
            cell = other.cell;
            facing = other.facing;
            beat = other.beat;
            gone = other.gone;
            came = other.came;
        }
    }

    /** Numbers told by hand: the ROW, or TRACKS. */
    private static final class Told {
        private final int[] numbers = new int[MOST_TOLD];
        int length;

        int at(int k) {
            return k >= 0 && k < MOST_TOLD ? numbers[k] : 0;
        }

        /** How many there are then; a number below 0 empties the row. */
        int tell(int number) {
            if (number < 0) {
                length = 0;
                return 0;
            }
            if (length < 0 || length >= MOST_TOLD) {
                return FULL;
            }
            numbers[length] = number;
            length++;
            return length;
        }

        void become(Told other) {
            System.arraycopy(other.numbers, 0, numbers, 0, MOST_TOLD);
            length = other.length;
        }
    }

    /** What THE IMAGE is taken of. */
    private static final class Scene {
        private final Walker[] all = new Walker[MOST_WALKERS];
        int walkers;
        final Told row = new Told();
        final Told tracks = new Told();
        Land land;

        Scene(Land bare) {
            land = bare;
            for (int k = 0; k < MOST_WALKERS; k++) {
                all[k] = new Walker();
            }
        }

        Walker who(int walker) {
            return walker >= 0 && walker < walkers && walker < MOST_WALKERS ? all[walker] : null;
        }

        Walker added() {
            if (walkers < MOST_WALKERS) {
                walkers++;
                return who(walkers - 1);
            }
            return null;
        }

        void become(Scene other) {
            walkers = other.walkers;
            land = other.land;
            row.become(other.row);
            tracks.become(other.tracks);
            for (int k = 0; k < MOST_WALKERS; k++) {
                all[k].become(other.all[k]);
            }
        }
    }

    /** How one of a KIND goes in a LAND at a BEAT: asked for whole sets of CELLS at once. */
    private static final class Gait {
        private Land land;
        private int kind, v;
        int beat, gone;

        Gait(Land bare) {
            land = bare;
        }

        void become(Land land, int kind, int v, int beat, int gone) {
            this.land = land;
            this.kind = kind;
            this.v = v;
            this.beat = land.beat(beat);
            this.gone = gone;
        }

        void tick() {
            beat = land.beat(beat + 1);
            gone++;
        }

        int steps(int cell, int facing, int came) {
            int steps = 0;
            for (int step = 0; step < STEPS; step++) {
                if (holds(starts(step, facing, came), cell)) {
                    steps |= 1 << step;
                }
            }
            return steps;
        }

        /** CELLS out of which a STEP MAY be done. */
        long starts(int step, int facing, int came) {
            if (step == STAND) {
                return rests() ? GROUND : GROUND & ~leaves(facing, came);
            }
            if (step == BACK) {
                return isOn() ? 0L : land.backward(way(BACK, facing, came));
            }
            return isOn() ? ons(step, facing) : 0L;
        }

        /** The WAY by which a STEP goes, HERE if it stays in its CELL. */
        int way(int step, int facing, int came) {
            switch (step) {
                case STAND: return HERE;
                case BACK: return isRound() ? came : across(facing);
                default: return step;
            }
        }

        private boolean isOn() {
            return beat < land.on;
        }

        private boolean isRound() {
            return kind == ROUND || kind == BLIND;
        }

        private boolean rests() {
            return kind == DANCER && isOn() && v > 0 && gone % v == 0;
        }

        private long leaves(int facing, int came) {
            if (!isOn()) {
                return land.backward(way(BACK, facing, came));
            }
            return ons(0, facing) | ons(1, facing) | ons(2, facing) | ons(3, facing);
        }

        private long ons(int way, int facing) {
            long cells = land.onward(way, facing);
            if (kind == TURNER) {
                return cells;
            }
            if (kind == LED) {
                return way == v % 4 ? 0L : cells;
            }
            if (way == facing) {
                return cells;
            }
            if (way == across(facing)) {
                return 0L;
            }
            switch (kind) {
                case LAME: case DANCER: return (gone + v) % 2 == 0 ? cells : 0L;
                case BLIND: return cells & ~land.onward(facing, facing);
                default: return cells;
            }
        }
    }

    /** Where one may be behind so many beats: CELLS as bits, by FACING and by where it came from. */
    private static final class Crowd {
        private long[] here = new long[WAYS * SIDES];
        private long[] then = new long[WAYS * SIDES];
        final Gait gait;

        Crowd(Land bare) {
            gait = new Gait(bare);
        }

        void alone(Land land, Walker one) {
            alone(land, one, one.kind, one.v, one.beat);
        }

        void alone(Land land, Walker one, int kind, int v, int beat) {
            gait.become(land, kind, v, beat, one.gone);
            Arrays.fill(here, 0L);
            join(here, one.facing, one.came, 1L << one.cell);
        }

        /** One who faces any WAY, GONE 0, having come from its CELL. */
        void around(Land land, int cell, int kind, int v, int beat) {
            gait.become(land, kind, v, beat, 0);
            Arrays.fill(here, 0L);
            for (int facing = 0; facing < WAYS; facing++) {
                join(here, facing, HERE, 1L << cell);
            }
        }

        void advance(int steps) {
            Arrays.fill(then, 0L);
            for (int facing = 0; facing < WAYS; facing++) {
                for (int came = 0; came < SIDES; came++) {
                    if (here[facing * SIDES + came] != 0L) {
                        spread(steps, facing, came);
                    }
                }
            }
            long[] before = here;
            here = then;
            then = before;
            gait.tick();
        }

        private void spread(int steps, int facing, int came) {
            long cells = among(facing, came);
            for (int step = 0; step < STEPS; step++) {
                long some = (steps >> step & 1) == 0 ? 0L : cells & gait.starts(step, facing, came);
                if (some != 0L) {
                    int way = gait.way(step, facing, came);
                    join(then, facingBy(step, facing), cameBy(step, way, came), moved(some, way));
                }
            }
        }

        private static void join(long[] sets, int facing, int came, long cells) {
            int k = facing * SIDES + came;
            if (k >= 0 && k < sets.length) {
                sets[k] |= cells;
            }
        }

        private long among(int facing, int came) {
            int k = facing * SIDES + came;
            return k >= 0 && k < here.length ? here[k] : 0L;
        }

        void keep(int cell) {
            for (int k = 0; k < here.length; k++) {
                here[k] &= 1L << cell;
            }
        }

        long cells() {
            long cells = 0L;
            for (int k = 0; k < here.length; k++) {
                cells |= here[k];
            }
            return cells;
        }

        long facing(int facing) {
            long cells = 0L;
            for (int came = 0; came < SIDES; came++) {
                cells |= among(facing, came);
            }
            return cells;
        }

        int beatsTo(int cell) {
            for (int beats = 0; beats <= MOST_BEATS; beats++) {
                if (holds(cells(), cell)) {
                    return beats;
                }
                advance(ANY_STEP);
            }
            return NO_WAY;
        }
    }

    /** Shares of one whose STEPS go by lot: behind n beats all are SHARES to the n-th together. */
    private static final class Lots {
        private static final int PLACES = CELLS * WAYS * SIDES;
        private long[] here = new long[PLACES];
        private long[] then = new long[PLACES];
        private final Gait gait;

        Lots(Land bare) {
            gait = new Gait(bare);
        }

        void alone(Land land, Walker one) {
            gait.become(land, one.kind, one.v, one.beat, one.gone);
            Arrays.fill(here, 0L);
            join(here, one.cell, one.facing, one.came, 1L);
        }

        void advance() {
            Arrays.fill(then, 0L);
            for (int k = 0; k < PLACES; k++) {
                if (here[k] != 0L) {
                    part(here[k], k / (WAYS * SIDES), k / SIDES % WAYS, k % SIDES);
                }
            }
            long[] before = here;
            here = then;
            then = before;
            gait.tick();
        }

        private void part(long shares, int cell, int facing, int came) {
            int steps = gait.steps(cell, facing, came);
            int ways = Integer.bitCount(steps);
            long each = ways > 0 ? shares * (SHARES / ways) : 0L;
            for (int step = 0; step < STEPS; step++) {
                if ((steps >> step & 1) != 0) {
                    int way = gait.way(step, facing, came);
                    join(then, next(cell, way), facingBy(step, facing), cameBy(step, way, came), each);
                }
            }
        }

        private static void join(long[] sets, int cell, int facing, int came, long shares) {
            int k = (cell * WAYS + facing) * SIDES + came;
            if (k >= 0 && k < sets.length) {
                sets[k] += shares;
            }
        }

        long shares(int cell) {
            long shares = 0L;
            for (int k = 0; k < PLACES; k++) {
                shares += k / (WAYS * SIDES) == cell ? here[k] : 0L;
            }
            return shares;
        }
    }

    /** The BODIES of ACTS and THE TRACE: steps, turns and tells run the body of one's KIND, or the next one above. */
    private static final class Bodies {
        final int[] trace = new int[MOST_TRACE];
        int ran;
        private int kind, v, number;

        void become(int kind, int v, int number) {
            this.kind = kind;
            this.v = v;
            this.number = number;
        }

        int steps(int x) {
            switch (kind) {
                case ROUND: case BLIND:
                    begins(30);
                    return plainSteps(x * 3);
                case LED:
                    begins(50);
                    return -plainSteps(x);
                case DANCER:
                    begins(71);
                    return plainSteps(x) ^ v;
                default:
                    return plainSteps(x);
            }
        }

        int turns(int x) {
            switch (kind) {
                case TURNER:
                    begins(20);
                    return plainTurns(x) ^ 6;
                case LED:
                    begins(51);
                    // TURNER's body stands here too: one call more would go nine deep
                    begins(20);
                    return plainTurns(x + 1) ^ 6;
                case DANCER:
                    begins(70);
                    int turned = plainTurns(x);
                    return turned + plainSteps(2);
                default:
                    return plainTurns(x);
            }
        }

        int tells(int x) {
            switch (kind) {
                case LAME: case DANCER:
                    begins(40);
                    int said = plainTells(x);
                    return said + turns(1);
                case BLIND:
                    begins(60);
                    return plainTells(x - number);
                default:
                    return plainTells(x);
            }
        }

        // the bodies of KIND WALKER, which all KINDS are under

        private int plainSteps(int x) {
            begins(10);
            return x + number;
        }

        private int plainTurns(int x) {
            begins(11);
            return steps(x) - v;
        }

        private int plainTells(int x) {
            begins(12);
            return turns(x) * 2;
        }

        private void begins(int body) {
            if (ran >= 0 && ran < MOST_TRACE) {
                trace[ran] = body;
            }
            ran++;
        }
    }

    /** A row of items of one sort, each held as the long that it reads as. */
    private static final class Tape {
        final long[] items = new long[MOST_ITEMS];
        int sort = EMPTY;
        private int length;

        void become(int sort, int length) {
            this.sort = sort;
            this.length = length;
            Arrays.fill(items, 0L);
        }

        boolean has(long place) {
            return place >= 0 && place < length;
        }

        boolean reaches(int place, int n) {
            return place >= 0 && n >= 0 && (long) place + n <= length;
        }

        long value(int place) {
            return place >= 0 && place < MOST_ITEMS ? items[place] : 0L;
        }

        void write(int place, long v) {
            if (place >= 0 && place < MOST_ITEMS) {
                items[place] = cut(v);
            }
        }

        private long cut(long v) {
            switch (sort) {
                case BYTES: return (byte) v;
                case SHORTS: return (short) v;
                case INTS: return (int) v;
                case BOOLEANS: return v != 0L ? 1L : 0L;
                default: return v;
            }
        }
    }
}
