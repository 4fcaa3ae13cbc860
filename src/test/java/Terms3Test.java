/** Terms, part 3, sentence by sentence: what is asked of ways, rows, tracks and lots. */
public final class Terms3Test {
    private static final int[] BESIDE = {8, 15, 20, 13};

    public static void main(String[] args) {
        soonestSixty();
        noBeats();
        firstSteps();
        beginSixty();
        beginAllElse();
        reachedAndNever();
        meetForty();
        home();
        homeSixty();
        rounds();
        roundsFurther();
        roundsAtTheEnd();
        twelveSteps();
        handAsStepped();
        twelveTracks();
        readTracks();
        lots();
        lotsOfRounds();
        slower();
        Due.end("Terms3Test");
    }

    // a BLIND one on a ring of 20 CELLS, on 2, back 4: the 60th beat is the last that counts
    private static TwoOnOneBack ring() {
        return Due.in("wall r=1&c<5;on 2;back 4", 5, 7, 23, 2, 1);
    }

    // "the fewest beats (0 .. 60)", "(-5: there is none; also for 0 beats)"
    private static void soonestSixty() {
        TwoOnOneBack x = ring();
        Due.is("60 beats", x.soonest(0, 2, 0), 60);
        Due.is("60 beats, the first step", x.soonest(0, 2, 1), 2);
        Due.is("61 beats", x.soonest(0, 1, 0), -5);
        Due.is("61 beats, the first step", x.soonest(0, 1, 1), -5);
        Due.is("0 beats", x.soonest(0, 23, 0), 0);
        Due.is("0 beats, the first step", x.soonest(0, 23, 1), -5);
        Due.is("a wall", x.soonest(0, 6, 0), -5);
        Due.is("a wall, the first step", x.soonest(0, 6, 1), -5);
        Due.is("reached within 60", x.reached(0, 60) & Due.bits(1, 2), Due.bits(2));
        Due.is("reached within 59", x.reached(0, 59) & Due.bits(1, 2), 0);
        Due.is("never within 60", x.never(0) & Due.bits(1, 2), Due.bits(1));
        Due.is("slower by 61 beats", x.slower(0, 1, 5, 1), -1000);
        Due.is("slower than 61 beats", x.slower(0, 1, 1, 5), -1000);
        Due.is("slower by 60 beats", x.slower(0, 2, 5, 5), 0);
        Due.holds("slower than one whom it takes less", x.slower(0, 2, 5, 1) > 0);
    }

    // "also for 0 beats": for those, too, who might do a step and be there still
    private static void noBeats() {
        String[] lands = {"on 1", "wall !i=14", "on 4;back 4", "on 4;back 4"};
        int[][] walkers = {{6, 1, 0}, {0, 0, 0}, {2, 0, 4}, {5, 0, 7}};
        for (int k = 0; k < 4; k++) {
            TwoOnOneBack x = Due.in(lands[k], walkers[k][0], walkers[k][1], 14, 1, walkers[k][2]);
            Due.holds("it may stay", (x.may(0) & 48) != 0);
            Due.is("0 beats", x.soonest(0, 14, 0), 0);
            Due.is("0 beats, no first step", x.soonest(0, 14, 1), -5);
            Due.is("0 beats by the least beat", x.begin(0, 14, 0), 0);
            for (int kind = 0; kind < 7; kind++) {
                Due.is("0 beats by each kind", x.slower(0, 14, kind, 6 - kind), 0);
            }
        }
    }

    // "the least first STEP of some such row"
    private static void firstSteps() {
        int[][] due = {{8, 0}, {15, 1}, {20, 2}, {13, 3}, {9, 0}, {21, 1}, {19, 2}, {7, 0}};
        TwoOnOneBack x = Due.in("on 4;back 4", 1, 0, 14, 1, 0);
        for (int[] d : due) {
            Due.is("first step to " + d[0], x.soonest(0, d[0], 1), d[1]);
        }
        x.put(0, 14, 1, 4);
        Due.is("first step in a back beat", x.soonest(0, 13, 1), 4);
        x.put(0, 12, 1, 7);
        Due.is("it stands first", x.soonest(0, 6, 1), 5);
        Due.is("it stands first, beats", x.soonest(0, 6, 0), 2);
        // a DANCER who may stand or go, and gets there as soon by both: the going is the lesser
        x = Due.in("wall r>0;on 1;back 1", 6, 1, 0, 1, 0);
        Due.is("beats of a dancer", x.soonest(0, 2, 0), -5);
        x = Due.in("wall r>0;on 4;back 1", 6, 2, 0, 1, 0);
        Due.is("a dancer goes at once", x.soonest(0, 3, 1), 1);
        Due.is("a dancer goes at once, beats", x.soonest(0, 3, 0), 3);
    }

    // "so that SOONEST is least (of several the least BEAT; -5: by none); how many that are then"
    private static void beginSixty() {
        TwoOnOneBack x = ring();
        Due.is("61 beats by the best", x.begin(0, 1, 0), -5);
        Due.is("61 beats by the best, how many", x.begin(0, 1, 1), -5);
        x = Due.in("wall r=1&c<5|r=3&c>0|r=5&c<5;on 2;back 4;stair c>4", 5, 8, 0, 1, 0);
        Due.is("by its own beat there is none", x.soonest(0, 35, 0), -5);
        Due.is("60 beats by another", x.begin(0, 35, 0), 1);
        Due.is("60 beats by another, how many", x.begin(0, 35, 1), 60);
        Due.is("0 beats, of all beats the least", x.begin(0, 0, 0), 0);
        Due.is("0 beats, how many", x.begin(0, 0, 1), 0);
        // the last BEAT there is, and none beyond it
        for (int back = 1; back <= 4; back++) {
            x = Due.in("wall r>0;on 4;back " + back, 0, 0, 4, 1, 0);
            Due.is("back once, of " + back, x.begin(0, 3, 0), 4);
            Due.is("back once, how many", x.begin(0, 3, 1), 1);
            Due.is("back " + back + " times", x.begin(0, 4 - back, 1), back);
            Due.is("its beat stays", x.of(0, 4), 0);
        }
    }

    // "(all else as it is)": GONE, and where it came from
    private static void beginAllElse() {
        TwoOnOneBack x = Due.in("on 1;back 1;wall r>1", 3, 0, 2, 1, 0);
        Due.is("gone 0: it may turn", x.begin(0, 8, 1), 1);
        x.step(0, 1);
        x.put(0, 2, 1, 0);
        Due.is("gone 1: never", x.begin(0, 8, 0), -5);
        Due.is("gone 1: with a back beat, and then", x.begin(0, 7, 0), 1);
        x = Due.in("on 1;back 4", 2, 0, 14, 1, 0);
        x.step(0, 0);
        Due.is("the way it came", x.begin(0, 14, 0), 1);
        Due.is("the way it came, how many", x.begin(0, 14, 1), 1);
    }

    // "CELLS in which it may be behind n beats or fewer"; "no WALLS, in which it never may be within 60 beats"
    private static void reachedAndNever() {
        TwoOnOneBack x = Due.in("wall r>0", 0, 0, 3, 1, 0);
        Due.is("0 beats", x.reached(0, 0), Due.bits(3));
        Due.is("or fewer", x.reached(0, 2), Due.bits(3, 4, 5));
        Due.is("61", x.reached(0, 61), Long.MIN_VALUE);
        Due.is("-1", x.reached(0, -1), Long.MIN_VALUE);
        Due.is("never", x.never(0), Due.bits(0, 1, 2));
        Due.is("a wall under it", Due.land(x, "wall r>1|i=3"), 1);
        Due.is("reached where it is, a wall", x.reached(0, 0), Due.bits(3));
        Due.is("never has no walls", x.never(0) & Due.bits(3, 12, 35), 0);
        x = new TwoOnOneBack();
        x.walker(1, 0, 35, 0);
        Due.is("all are reached", x.reached(0, 60), (1L << 36) - 1);
        Due.is("none is never reached", x.never(0), 0);
    }

    // "the fewest beats (0 .. 40) .. (-5: never by then); the least such CELL"
    private static void meetForty() {
        TwoOnOneBack x = Due.in("wall r=1&c<5|r=3&c>0|r=5;on 1;back 2", 0, 0, 0, 1, 0);
        x.walker(2, 1, 25, 2);
        Due.is("behind 40", x.meet(0, 1, 0), 40);
        Due.is("behind 40, the cell", x.meet(0, 1, 1), 1);
        x = Due.in("wall r=1&c<5|r=3&c>0|r=5;on 1;back 4", 0, 0, 5, 1, 0);
        x.walker(2, 1, 25, 2);
        Due.is("behind 41", x.meet(0, 1, 0), -5);
        Due.is("behind 41, the cell", x.meet(0, 1, 1), -5);
        x.put(1, 5, 0, 3);
        Due.is("behind 0", x.meet(1, 0, 0), 0);
        Due.is("behind 0, the cell", x.meet(1, 0, 1), 5);
        // two CELLS in which both may be behind one beat: the lesser one, whoever is named first
        x = Due.in("on 1", 1, 0, 14, 0, 0);
        x.walker(1, 0, 21, 2);
        Due.is("two cells", x.meet(0, 1, 1), 15);
        Due.is("two cells, the other way round", x.meet(1, 0, 1), 15);
        // by as many STEPS each: they pass each other in the lane, and neither may wait
        x = Due.in("wall r>0;on 4;back 1", 0, 0, 0, 1, 0);
        x.walker(0, 0, 3, 3);
        Due.is("as many steps each", x.meet(0, 1, 0), -5);
    }

    // "in its CELL, FACING as it does, at its BEAT"
    private static void home() {
        TwoOnOneBack x = Due.in("on 1;back 2", 2, 0, 14, 1, 0);
        Due.is("in its cell behind 2, but not at its beat", x.home(0), 12);
        x = Due.in("on 1;back 1", 1, 0, 14, 1, 0);
        Due.is("there and back", x.home(0), 2);
        x.put(0, 14, 1, 1);
        Due.is("back and there", x.home(0), 2);
        Due.is("a land of one lane", Due.land(x, "on 3;back 1;wall r>0"), 1);
        x.put(0, 0, 0, 0);
        Due.is("never facing so again", x.home(0), -5);
        // behind 4 beats it may be in its CELL, but only FACING across of a WAY that it might go first
        x = Due.in("on 3;back 1", 0, 0, 14, 1, 1);
        for (int way = 0; way < 4; way++) {
            x.put(0, 14, way, 1);
            Due.is("in its cell, but not facing " + way, x.home(0), 8);
        }
        // its BEAT is asked for, not another walker's
        x = Due.in("on 1;back 1", 0, 0, 14, 1, 0);
        x.walker(0, 0, 21, 1);
        x.put(1, 21, 1, 1);
        x.meet(0, 1, 0);
        Due.is("beat 0", x.home(0), 2);
        Due.is("beat 1", x.home(1), 2);
        Due.is("an even lot of beats", Due.land(x, "on 1;back 2;wall !i=14"), 1);
        x.put(1, 14, 1, 1);
        x.meet(0, 1, 0);
        Due.is("standing, beat 0", x.home(0), 3);
        Due.is("standing, beat 1", x.home(1), 3);
        x.put(1, 14, 1, 7);
        Due.is("standing, beat 7 of 3", x.home(1), 3);
    }

    // "the fewest beats (1 .. 60)", "(-5: never by then)"
    private static void homeSixty() {
        TwoOnOneBack x = Due.in("wall r=1&c<5|r=3&c>0;on 1;back 4", 5, 0, 35, 1, 0);
        Due.is("behind 60", x.home(0), 60);
        x = Due.in("wall r=1&c<5|r=3&c>0;on 4;back 3", 3, 2, 4, 3, 3);
        Due.is("behind 63", x.home(0), -5);
        x = Due.in("wall r=1&c<5;on 3;back 1;door i>2", 5, 3, 12, 0, 1);
        Due.is("behind 64", x.home(0), -5);
    }

    // where a ROUND or BLIND one came from counts in all that is asked, whichever way it came
    private static void rounds() {
        for (int kind = 2; kind < 6; kind += 3) {
            for (int way = 0; way < 4; way++) {
                TwoOnOneBack x = Due.in("on 1;back 4", kind, 0, 14, way, 0);
                int to = BESIDE[way];
                x.step(0, way);
                x.walker(2, 0, 14, way);
                x.put(1, 14, way, 1);
                Due.is("soonest where it came from", x.soonest(0, 14, 0), 1);
                Due.is("by a step back", x.soonest(0, 14, 1), 4);
                Due.is("begin with the first back beat", x.begin(0, 14, 0), 1);
                Due.is("reached within 4", x.reached(0, 4), Due.bits(14, to));
                Due.is("meets one who stays there", x.meet(0, 1, 0), 1);
                Due.is("meets it in", x.meet(1, 0, 1), 14);
                Due.is("lot behind 1", x.lot(0, 14, 1, 0), 1);
                Due.is("lot behind 2", x.lot(0, to, 2, 0), 1);
                Due.is("lot behind 3", x.lot(0, 14, 3, 0), 1);
                Due.is("slower than one who stays", x.slower(0, 14, kind, 7 - kind), 0);
                x.row(4);
                x.row(4);
                x.row(4);
                Due.is("by hand", x.hand(0, 0), 3);
                Due.is("by hand, the cell", x.hand(0, 1), 14);
                Due.is("by hand, facing", x.hand(0, 2), way);
                x.put(0, to, way, 1);
                Due.is("put: it stays its back beats", x.reached(0, 4), Due.bits(to));
                Due.is("put: lot", x.lot(0, to, 4, 0), 1);
                Due.is("put: by hand", x.hand(0, 1), to);
            }
        }
    }

    // in a lane a ROUND one goes one CELL further in each round, one who goes back twice goes back one
    private static void roundsFurther() {
        String[] lanes = {"wall !c=3", "wall !r=3", "wall !c=3", "wall !r=3"};
        for (int way = 0; way < 4; way++) {
            int one = new int[] {-6, 1, 6, -1}[way];
            TwoOnOneBack x = Due.in(lanes[way] + ";on 1;back 2", 2, 0, 21, way, 0);
            int end = way == 0 || way == 3 ? 3 : 2;
            for (int n = 1; n <= end; n++) {
                Due.is("cell " + n + " by way " + way, x.soonest(0, 21 + n * one, 0), 3 * n - 2);
                Due.is("cell " + n + ", lot", x.lot(0, 21 + n * one, Math.min(6, 3 * n - 2), 1), 1);
            }
            Due.is("behind it", x.soonest(0, 21 - one, 0), -5);
            Due.is("slower than a walker", x.slower(0, 21 + 2 * one, 2, 0), -1000);
            Due.is("a walker gets behind", x.slower(0, 21 - one, 0, 0), 0);
            Due.is("six beats on", x.lot(0, 21 + 2 * one, 6, 0), 1);
        }
    }

    // at the end of a lane a ROUND one stands in ON beats, and goes back where it came from then
    private static void roundsAtTheEnd() {
        int[] at = {9, 22, 27, 19};
        for (int kind = 2; kind < 6; kind += 3) {
            for (int way = 0; way < 4; way++) {
                String lane = way % 2 == 0 ? "c=3" : "r=3";
                TwoOnOneBack x = Due.in("on 2;back 2;wall !" + lane, kind, 0, at[way], way, 0);
                x.step(0, way);
                int end = x.of(0, 2);
                Due.is("back, by way " + way, x.soonest(0, at[way], 0), 2);
                Due.is("it stands first", x.soonest(0, at[way], 1), 5);
                Due.is("lot behind 1", x.lot(0, end, 1, 0), 1);
                Due.is("lot behind 2", x.lot(0, at[way], 2, 0), 1);
                Due.is("lot behind 3", x.lot(0, end, 3, 0), 1);
                Due.is("reached within 60", x.reached(0, 60), Due.bits(at[way], end));
                Due.is("home", x.home(0), 4);
                Due.is("begin with the first back beat", x.begin(0, at[way], 0), 2);
                x.row(5);
                x.row(4);
                Due.is("by hand", x.hand(0, 1), at[way]);
                x.put(0, at[way], way, 1);
                x.step(0, way);
                Due.is("back at once, by way " + way, x.soonest(0, at[way], 0), 1);
                Due.is("lot of back at once", x.lot(0, at[way], 1, 0), 1);
                Due.is("there again", x.lot(0, end, 2, 0), 1);
            }
        }
    }

    // "A ROW of STEPS told by hand (12 at most; 0 .. 5)"
    private static void twelveSteps() {
        TwoOnOneBack x = Due.in("on 2", 1, 0, 12, 1, 0);
        int[] round = {1, 3, 4};
        for (int n = 0; n < 12; n++) {
            Due.is("step comes", x.row(round[n % 3]), n + 1);
            Due.is("all are done", x.hand(0, 0), n + 1);
        }
        Due.is("a 13th", x.row(1), -4);
        Due.is("twelve are done", x.hand(0, 0), 12);
        Due.is("one cell further in each round", x.hand(0, 1), 16);
        Due.is("facing as it went on last", x.hand(0, 2), 3);
        x.row(-1);
        Due.is("none are done", x.hand(0, 0), 0);
        Due.is("where it is", x.hand(0, 1), 12);
        Due.is("facing", x.hand(0, 2), 1);
        for (int n = 0; n < 11; n++) {
            x.row(round[n % 3]);
        }
        x.row(5);
        Due.is("the twelfth may not be", x.hand(0, 0), 11);
        x.row(-1);
        x.row(5);
        x.row(1);
        Due.is("the first may not be", x.hand(0, 0), 0);
        Due.is("it is where it was", x.hand(0, 1), 12);
    }

    // "how many of the first MAY be done by a WALKER one behind the other; where it is behind these; where FACING"
    private static void handAsStepped() {
        int[][] rows = {{1, 1, 4, 1, 1, 4, 1, 1, 4, 1, 1, 4}, {0, 3, 4, 2, 1, 4, 2, 3, 4, 0, 0, 4},
            {5, 1, 4, 2, 5, 4, 5, 5, 4, 5, 1, 4}, {2, 2, 4, 3, 2, 4, 3, 3, 4, 0, 3, 4}, {1, 5, 5, 5, 5}};
        for (int kind = 0; kind < 7; kind++) {
            for (int v = 0; v < 4; v++) {
                for (int[] row : rows) {
                    TwoOnOneBack x = Due.in("door i=16;ledge i=13;wall i=5", kind, v, 14, 1, 0);
                    for (int step : row) {
                        x.row(step);
                    }
                    int done = x.hand(0, 0);
                    int cell = x.hand(0, 1);
                    int facing = x.hand(0, 2);
                    for (int n = 0; n < done; n++) {
                        Due.holds("step " + n + " may be", x.step(0, row[n]) >= 0);
                    }
                    Due.is("where it is, kind " + kind, x.of(0, 2), cell);
                    Due.is("facing, kind " + kind, x.of(0, 3), facing);
                    Due.is("the next may not be, kind " + kind, done < row.length ? x.step(0, row[done]) : -3, -3);
                }
            }
        }
    }

    // "CELLS told by hand (12 at most)"
    private static void twelveTracks() {
        TwoOnOneBack x = new TwoOnOneBack();
        Due.walk(x, 0, 1, 2, 1, 2, 3, 2, 3, 4, 3, 4, 5);
        Due.is("twelve", x.count(3), 12);
        Due.is("two on, one back", x.tracks(0, 0), 1);
        Due.is("a 13th", x.track(4), -4);
        Due.is("still two on, one back", x.tracks(0, 0), 1);
        Due.walk(x, 0, 1, 2, 1, 2, 3, 2, 3, 4, 3, 4, 16);
        Due.is("the twelfth is too far", x.tracks(0, 0), 0);
        Due.walk(x, 0, 1, 2, 1, 2, 3, 2, 3, 4, 3, 4, 3);
        Due.is("the twelfth comes a beat early", x.tracks(0, 0), 0);
        x.track(-1);
        Due.is("without", x.tracks(0, 0), 7);
        Due.is("eight beats", Due.land(x, "on 4;back 4"), 0);
        Due.is("without, eight beats", x.tracks(6, 9), 255);
        Due.walk(x, 35);
        Due.is("one, eight beats", x.tracks(6, 9), 255);
        Due.walk(x, 14, 13, 12, 12);
        Due.is("three back beats, of which it stands one", x.tracks(0, 0), Due.bits(4, 5));
    }

    // "in the first CELL (a WALL, too), FACING some WAY, having come from that CELL, GONE 0"
    private static void readTracks() {
        TwoOnOneBack x = Due.on("wall i=14|i=8");
        Due.walk(x, 14);
        Due.is("a wall", x.tracks(0, 0), 7);
        Due.walk(x, 14, 15);
        Due.is("out of a wall", x.tracks(0, 0), 7);
        Due.walk(x, 14, 8);
        Due.is("into a wall", x.tracks(0, 0), 0);
        Due.walk(x, 14, 14);
        Due.is("a round one stands in a wall in a back beat", x.tracks(2, 0), 4);
        Due.walk(x, 27, 27);
        Due.is("a round one stays, having come from there", x.tracks(2, 0), 4);
        Due.is("a walker does not", x.tracks(0, 0), 0);
        Due.walk(x, 20, 21, 27);
        Due.is("gone 0 and 1: v 0 may not turn at gone 1", x.tracks(3, 0), 0);
        Due.is("gone 0 and 1: v 1 may", x.tracks(3, 1), 5);
        Due.is("v 9 may", x.tracks(3, 9), 5);
        Due.walk(x, 27, 27, 28);
        Due.is("a dancer stands at gone 0", x.tracks(6, 9), 3);
        Due.is("a dancer of v 0 does not", x.tracks(6, 0), 0);
        for (int way = 0; way < 4; way++) {
            Due.walk(x, 21, BESIDE[way] + 7);
            Due.is("a blind one facing " + way, x.tracks(5, 0), 3);
            Due.is("a walker, or back, facing " + way, x.tracks(0, 0), 7);
        }
        Due.walk(x, 21, 0);
        Due.is("to nowhere near", x.tracks(1, 0), 0);
        Due.walk(x, 21, 0, 1);
        Due.is("to nowhere near, and on", x.tracks(1, 0), 0);
    }

    private static void odds(TwoOnOneBack x, int cell, int n, long above, long below) {
        Due.is("lot to " + cell + " behind " + n + ", above", x.lot(0, cell, n, 0), above);
        Due.is("lot to " + cell + " behind " + n + ", below", x.lot(0, cell, n, 1), below);
    }

    // "ODDS that a WALKER is in a CELL behind n beats (0 .. 6): a fraction in lowest terms"
    private static void lots() {
        TwoOnOneBack x = Due.in("on 4;back 4", 1, 0, 14, 1, 0);
        odds(x, 14, 0, 1, 1);
        odds(x, 35, 0, 0, 1);
        odds(x, 8, 1, 1, 4);
        odds(x, 14, 2, 1, 4);
        odds(x, 16, 2, 1, 16);
        odds(x, 9, 2, 1, 8);
        odds(x, 14, 3, 0, 1);
        Due.is("7 beats", x.lot(0, 14, 7, 0), Long.MIN_VALUE);
        Due.is("-1 beats", x.lot(0, 14, -1, 1), Long.MIN_VALUE);
        // on or standing, by an even lot
        x = Due.in("wall r>0;on 4;back 4", 6, 1, 0, 1, 0);
        odds(x, 0, 1, 1, 2);
        odds(x, 0, 4, 1, 16);
        odds(x, 1, 4, 1, 4);
        odds(x, 2, 4, 3, 8);
        odds(x, 0, 6, 11, 16);
        odds(x, 2, 6, 1, 16);
        x = Due.in("wall !i=14", 0, 0, 14, 1, 0);
        for (int n = 0; n <= 6; n++) {
            odds(x, 14, n, 1, 1);
            odds(x, 15, n, 0, 1);
        }
    }

    // in each of six beats a step by lot, all of them back the way it came
    private static void lotsOfRounds() {
        for (int kind = 2; kind < 6; kind += 3) {
            for (int way = 0; way < 4; way++) {
                TwoOnOneBack x = Due.in("on 4;back 4", kind, 0, 14, way, 3);
                long there = kind == 2 ? 3 : 1;
                odds(x, BESIDE[way], 1, 1, there);
                odds(x, 14, 2, 1, 1);
                odds(x, BESIDE[way], 3, 1, there);
                odds(x, BESIDE[(way + 2) % 4], 5, 0, 1);
                odds(x, BESIDE[way], 5, 1, there);
            }
        }
    }

    // "of a told KIND, or of another one, with v 0, all else as it is"
    private static void slower() {
        TwoOnOneBack x = Due.in("wall r>0", 4, 9, 3, 1, 2);
        Due.is("at its beat, a back beat", x.slower(0, 2, 0, 0), 0);
        Due.is("a walker goes back, a round one stays", x.slower(0, 2, 0, 2), -1000);
        Due.is("a turner, a walker", x.slower(0, 4, 1, 0), 0);
        x = Due.in("on 4;back 1", 3, 1, 14, 1, 0);
        Due.is("v 0: as a walker at gone 0", x.slower(0, 2, 3, 0), 0);
        Due.is("soonest by its own v", x.soonest(0, 2, 0), 4);
        x.step(0, 1);
        x.put(0, 14, 1, 0);
        Due.is("gone 1: two beats more than a walker", x.slower(0, 2, 3, 0), 2);
        Due.is("a walker, two beats fewer", x.slower(0, 2, 0, 3), -2);
        Due.is("a dancer with v 0 as a lame one", x.slower(0, 2, 6, 3), 0);
        Due.is("led with v 0", x.slower(0, 2, 4, 1), -1000);
        x = Due.in("wall r>0;on 1;back 2", 2, 0, 3, 1, 0);
        x.step(0, 1);
        Due.is("the way it came, or across", x.slower(0, 3, 2, 0), 0);
        Due.is("a round one never gets there", x.slower(0, 2, 2, 0), -1000);
        Due.is("a walker never gets there", x.slower(0, 5, 2, 0), -1000);
        // at BEAT 1 of 3: on, back, on, on
        x = Due.in("wall r>0;on 2;back 1", 0, 0, 0, 1, 1);
        Due.is("a walker, a round one", x.slower(0, 2, 0, 2), 0);
        Due.is("four beats", x.soonest(0, 2, 0), 4);
        x.put(0, 4, 1, 2);
        Due.is("back at once", x.slower(0, 3, 0, 1), 0);
        Due.is("a round one never", x.slower(0, 3, 1, 2), -1000);
    }
}
