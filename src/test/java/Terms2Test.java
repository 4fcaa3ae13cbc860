/** Terms, part 2, sentence by sentence: walkers and their kinds, steps that one may do, what comes of a step. */
public final class Terms2Test {
    private static final int FREE = 0, WALL = 1, LEDGE = 2;
    private static final int[] BESIDE = {8, 15, 20, 13};

    public static void main(String[] args) {
        sixWalkers();
        firstValues();
        firstValuesAgain();
        onByKind();
        onAtTheEdges();
        onBesideMarks();
        backBesideMarks();
        backOutOf();
        roundBack();
        roundStays();
        roundAlways();
        nothingElse();
        dancerInBackBeats();
        whatComesOfOn();
        whatComesOfBack();
        whatComesOfStanding();
        nextBeat();
        Due.end("Terms2Test");
    }

    // "WALKERS 0 .. 5, as they come, are of KINDS 0 .. 6; with a number v (0 .. 9)"
    private static void sixWalkers() {
        for (int kind = 0; kind < 7; kind++) {
            TwoOnOneBack x = new TwoOnOneBack();
            for (int k = 0; k < 6; k++) {
                int v = k == 5 ? 9 : k;
                Due.is("walker", x.walker(kind, v, 35 - 7 * k, k % 4), k);
                Due.is("its kind", x.of(k, 0), kind);
                Due.is("its v", x.of(k, 1), v);
                Due.is("its cell", x.of(k, 2), 35 - 7 * k);
                Due.is("its way", x.of(k, 3), k % 4);
            }
            Due.is("a seventh", x.walker(kind, 0, 1, 0), -4);
            Due.is("the sixth is as it was", x.of(5, 2), 0);
        }
    }

    // "at a BEAT (0 at first), having come from a CELL (its own at first), GONE so many beats (0 at first)"
    private static void firstValues() {
        TwoOnOneBack x = Due.on("on 4;back 4");
        x.walker(0, 1, 14, 1);
        x.step(0, 1);
        x.put(0, 20, 2, 7);
        x.walker(2, 3, 14, 0);
        Due.all("first values", x, 1, 2, 3, 14, 0, 0, 14, 0);
    }

    // the same for one whose number another one had, whom undo() took away
    private static void firstValuesAgain() {
        TwoOnOneBack x = new TwoOnOneBack();
        x.image();
        x.walker(2, 7, 14, 1);
        x.step(0, 1);
        x.step(0, 1);
        Due.all("the one before", x, 0, 2, 7, 16, 1, 2, 15, 2);
        x.undo();
        Due.is("none", x.of(0, 6), -1);
        x.walker(3, 0, 21, 3);
        Due.all("the one behind", x, 0, 3, 0, 21, 3, 0, 21, 0);
        Due.is("GONE 0 and v 0: it may turn", x.may(0), 13);
    }

    private static int sides(int way) {
        return 1 << (way + 1) % 4 | 1 << (way + 3) % 4;
    }

    private static int onOpenGround(int kind, int v, int way, int gone) {
        int ahead = 1 << way;
        switch (kind) {
            case 1: return 15;
            case 3: return (gone + v) % 2 == 1 ? ahead : ahead | sides(way);
            case 4: return 15 - (1 << v % 4);
            case 5: return ahead;
            case 6: return onOpenGround(3, v, way, gone) | (v > 0 && gone % v == 0 ? 32 : 0);
            default: return ahead | sides(way);
        }
    }

    // each KIND with each v, FACING each WAY, GONE 0 to 20
    private static void onByKind() {
        for (int kind = 0; kind < 7; kind++) {
            for (int v = 0; v < 10; v++) {
                TwoOnOneBack x = new TwoOnOneBack();
                x.walker(kind, v, 14, 0);
                for (int gone = 0; gone <= 20; gone++) {
                    Due.is("gone", x.of(0, 6), gone);
                    for (int way = 0; way < 4; way++) {
                        x.put(0, 14, way, gone % 2);
                        int want = onOpenGround(kind, v, way, gone);
                        Due.is("kind " + kind + " v " + v + " facing " + way + " gone " + gone, x.may(0), want);
                    }
                    x.put(0, 14, 0, 2);
                    x.step(0, 4);
                }
            }
        }
    }

    private static boolean leads(int cell, int way) {
        return way == 0 ? cell > 5 : way == 1 ? cell % 6 < 5 : way == 2 ? cell < 30 : cell % 6 > 0;
    }

    // "A STEP MAY be only into a CELL of THE GROUND"
    private static void onAtTheEdges() {
        for (int kind = 0; kind < 7; kind++) {
            for (int cell = 0; cell < 36; cell++) {
                TwoOnOneBack x = new TwoOnOneBack();
                x.walker(kind, 1, cell, 0);
                for (int way = 0; way < 4; way++) {
                    x.put(0, cell, way, 0);
                    int want = onOpenGround(kind, 1, way, 0) | (kind == 5 && !leads(cell, way) ? sides(way) : 0);
                    for (int to = 0; to < 4; to++) {
                        want &= leads(cell, to) ? 63 : 63 - (1 << to);
                    }
                    Due.is("kind " + kind + " in " + cell + " facing " + way, x.may(0), want == 0 ? 32 : want);
                }
            }
        }
    }

    /** A LAND in which the four CELLS beside 14 are free, WALLS or LEDGES. */
    private static String beside(int four, int[] marks) {
        StringBuilder text = new StringBuilder("on 1;back 1");
        for (int way = 0; way < 4; way++) {
            marks[way] = four % 3;
            four /= 3;
            text.append(marks[way] == FREE ? "" : (marks[way] == WALL ? ";wall i=" : ";ledge i=") + BESIDE[way]);
        }
        return text.toString();
    }

    // "that is no WALL; ON not into a LEDGE, if it FACES another WAY than it goes"
    private static void onBesideMarks() {
        int[] marks = new int[4];
        for (int four = 0; four < 81; four++) {
            String land = beside(four, marks);
            for (int kind = 0; kind < 7; kind++) {
                TwoOnOneBack x = Due.in(land, kind, 2, 14, 0, 0);
                for (int way = 0; way < 4; way++) {
                    x.put(0, 14, way, 0);
                    int want = onOpenGround(kind, 2, way, 0) | (kind == 5 && marks[way] == WALL ? sides(way) : 0);
                    for (int to = 0; to < 4; to++) {
                        boolean may = marks[to] == FREE || marks[to] == LEDGE && to == way;
                        want &= may ? 63 : 63 - (1 << to);
                    }
                    Due.is(land + ": kind " + kind + " facing " + way, x.may(0), want == 0 ? 32 : want);
                }
            }
        }
    }

    // "back not into a LEDGE", nor into a WALL; "by the WAY across of the one it FACES"
    private static void backBesideMarks() {
        int[] marks = new int[4];
        for (int four = 0; four < 81; four++) {
            String land = beside(four, marks);
            for (int kind = 0; kind < 7; kind++) {
                TwoOnOneBack x = Due.in(land, kind, 2, 14, 0, 1);
                for (int way = 0; way < 4; way++) {
                    x.put(0, 14, way, 1);
                    boolean may = kind == 2 || kind == 5 || marks[(way + 2) % 4] == FREE;
                    Due.is(land + ": back of kind " + kind + " facing " + way, x.may(0), may ? 16 : 32);
                }
            }
        }
    }

    // "and not out of a STAIR or a DOOR"; into them, and ON out of them and into them, it MAY
    private static void backOutOf() {
        for (String word : new String[] {"stair", "door"}) {
            TwoOnOneBack x = Due.on(word + " i=14");
            for (int kind = 0; kind < 7; kind++) {
                x.image();
                int w = x.walker(kind, 0, 14, 1);
                Due.is(word + ": on out of it, kind " + kind, x.may(w), onOpenGround(kind, 0, 1, 0));
                x.put(w, 14, 1, 2);
                Due.is(word + ": not back out of it, kind " + kind, x.may(w), 32);
                Due.is(word + ": back, kind " + kind, x.step(w, 4), -3);
                x.put(w, 15, 3, 0);
                Due.is(word + ": on into it, kind " + kind, x.step(w, 3), 14);
                x.put(w, 13, 3, 2);
                boolean round = kind == 2 || kind == 5;
                Due.is(word + ": back into it, kind " + kind, x.step(w, 4), round ? 13 : 14);
                x.undo();
            }
        }
    }

    private static void land(TwoOnOneBack x, String text) {
        Due.holds(text + " is a land", Due.land(x, text) >= 0);
    }

    // "ROUND, BLIND: into the CELL from which it came": what that is, and its own, behind the STEP that led there
    private static void roundBack() {
        String[] words = {"wall", "ledge", "door", "stair"};
        int[] from = {32, 32, 16, 16};
        int[] own = {16, 16, 32, 32};
        for (int kind = 2; kind < 6; kind += 3) {
            for (int way = 0; way < 4; way++) {
                for (int what = 0; what < 4; what++) {
                    TwoOnOneBack x = new TwoOnOneBack();
                    x.walker(kind, 0, 14, way);
                    Due.is("on", x.step(0, way), BESIDE[way]);
                    land(x, "on 1;back 4;" + words[what] + " i=14");
                    Due.is("back into a " + words[what] + ", kind " + kind, x.may(0), from[what]);
                    land(x, "on 1;back 4;" + words[what] + " i=" + BESIDE[way]);
                    Due.is("back out of a " + words[what] + ", kind " + kind, x.may(0), own[what]);
                    land(x, "on 1;back 4;" + words[what] + " !(i=14|i=" + BESIDE[way] + ")");
                    Due.is("back among " + words[what] + "s, kind " + kind, x.step(0, 4), 14);
                    Due.is("still facing", x.of(0, 3), way);
                    Due.is("from", x.of(0, 5), BESIDE[way]);
                }
            }
        }
    }

    // "its own, if that is it", "(all of it also where it would stay in its own)"
    private static void roundStays() {
        for (int kind = 2; kind < 6; kind += 3) {
            for (String word : new String[] {"wall", "ledge", "door", "stair"}) {
                TwoOnOneBack x = new TwoOnOneBack();
                x.walker(kind, 0, 14, 1);
                x.put(0, 14, 1, 2);
                Due.is("stays by a step back, kind " + kind, x.may(0), 16);
                land(x, word + " i=14");
                Due.is("not in a " + word + ", kind " + kind, x.may(0), 32);
                Due.is("no step back", x.step(0, 4), -3);
                land(x, word + " !i=14");
                Due.is("stays among " + word + "s, kind " + kind, x.step(0, 4), 14);
                Due.all("it stayed", x, 0, kind, 0, 14, 1, 0, 14, 1);
            }
        }
    }

    // one step back behind the other: there and back again
    private static void roundAlways() {
        for (int kind = 2; kind < 6; kind += 3) {
            TwoOnOneBack x = Due.in("on 1;back 4", kind, 0, 14, 2, 0);
            int[] steps = {2, 4, 4, 4, 4, 2, 4};
            int[] cells = {20, 14, 20, 14, 20, 26, 20};
            int own = 14;
            for (int n = 0; n < steps.length; n++) {
                Due.is("step " + n + " of kind " + kind, x.step(0, steps[n]), cells[n]);
                Due.is("from, behind step " + n, x.of(0, 5), own);
                own = cells[n];
            }
        }
    }

    // "In a beat in which nothing else MAY be it MAY stand (5)"
    private static void nothingElse() {
        for (int kind = 0; kind < 7; kind++) {
            TwoOnOneBack x = Due.in("on 4;back 4;wall !i=14", kind, 2, 14, 1, 0);
            for (int beat = 0; beat < 8; beat++) {
                x.put(0, 14, 1, beat);
                boolean stays = beat > 3 && (kind == 2 || kind == 5);
                Due.is("shut in, kind " + kind + ", beat " + beat, x.may(0), stays ? 16 : 32);
                Due.is("it goes nowhere", x.step(0, stays ? 5 : 4), -3);
                Due.is("it is where it was", x.step(0, stays ? 4 : 5), 14);
            }
            x = Due.in("wall !i<2", kind, 2, 0, 1, 0);
            Due.is("something else, kind " + kind, x.may(0), kind == 6 ? 34 : 2);
            Due.is("it stands", x.step(0, 5), kind == 6 ? 0 : -3);
        }
    }

    // the DANCER's standing is one of the STEPS in an ON beat
    private static void dancerInBackBeats() {
        for (int v = 0; v < 10; v++) {
            TwoOnOneBack x = Due.in("on 1;back 4", 6, v, 14, 1, 1);
            Due.is("gone 0, a back beat, v " + v, x.may(0), 16);
            Due.is("it does not stand", x.step(0, 5), -3);
            x.put(0, 12, 1, 1);
            Due.is("gone 0, no step back, v " + v, x.may(0), 32);
            x.put(0, 14, 1, 5);
            Due.is("gone 0, an on beat, v " + v, x.may(0), onOpenGround(6, v, 1, 0));
        }
    }

    // "ON: it FACES that WAY, has come from where it was, is in the next CELL"
    private static void whatComesOfOn() {
        for (int way = 0; way < 4; way++) {
            for (int to = 0; to < 4; to++) {
                TwoOnOneBack x = new TwoOnOneBack();
                x.walker(1, 5, 14, way);
                Due.is("on by " + to, x.step(0, to), BESIDE[to]);
                Due.all("behind on by " + to, x, 0, 1, 5, BESIDE[to], to, 1, 14, 1);
            }
        }
    }

    // "Back: it has come from where it was, is in that CELL" "(it still FACES that)"
    private static void whatComesOfBack() {
        for (int kind = 0; kind < 7; kind++) {
            for (int way = 0; way < 4; way++) {
                TwoOnOneBack x = new TwoOnOneBack();
                x.walker(kind, 0, 14, way);
                x.put(0, 14, way, 2);
                int to = kind == 2 || kind == 5 ? 14 : BESIDE[(way + 2) % 4];
                Due.is("back, kind " + kind, x.step(0, 4), to);
                Due.all("behind back, kind " + kind, x, 0, kind, 0, to, way, 0, 14, 1);
            }
        }
    }

    // "Standing: nothing. BEAT is the next one, GONE 1 more"
    private static void whatComesOfStanding() {
        for (int kind = 0; kind < 7; kind++) {
            TwoOnOneBack x = new TwoOnOneBack();
            x.walker(kind, 0, 14, 1);
            x.step(0, 1);
            land(x, "on 4;wall !i=15");
            for (int n = 1; n < 4; n++) {
                Due.all("standing, kind " + kind, x, 0, kind, 0, 15, 1, n, 14, n);
                Due.is("it stands", x.step(0, 5), 15);
            }
            Due.all("stood, kind " + kind, x, 0, kind, 0, 15, 1, 4, 14, 4);
        }
    }

    // "(the first behind the last; by on and back as they are then)"
    private static void nextBeat() {
        TwoOnOneBack x = Due.in("on 4;back 4;wall !i=0", 0, 0, 0, 1, 6);
        x.step(0, 5);
        Due.is("the last", x.of(0, 4), 7);
        x.step(0, 5);
        Due.is("the first behind the last", x.of(0, 4), 0);
        x.put(0, 0, 1, 7);
        land(x, "on 3;back 2;wall !i=0");
        Due.is("7 of 5", x.of(0, 4), 2);
        x.step(0, 5);
        Due.is("the next of 5", x.of(0, 4), 3);
        land(x, "on 1;back 1;wall !i=0");
        Due.is("3 of 2", x.of(0, 4), 1);
        land(x, "on 4;back 4;wall !i=0");
        Due.is("3 is kept", x.of(0, 4), 3);
        x.put(0, 0, 1, 4);
        land(x, "on 3;back 2;wall !i=0");
        x.step(0, 5);
        Due.is("the first of 5", x.of(0, 4), 0);
        land(x, "on 4;back 4;wall !i=0");
        Due.is("the first was kept", x.of(0, 4), 0);
    }
}
