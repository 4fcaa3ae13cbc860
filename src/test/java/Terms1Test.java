import java.util.List;

/** Terms, part 1, sentence by sentence: cells, ways, the text of a land and its fault, on and back, the rhythm. */
public final class Terms1Test {
    private static final String[] WORDS = {"on ", "back ", "wall ", "ledge ", "door ", "stair "};
    private static final String LETTERS = "rcsdi";

    public static void main(String[] args) {
        cells();
        ways();
        across();
        hundredSigns();
        clauses();
        blanks();
        digits();
        parts();
        within();
        signs();
        tests();
        endsTooEarly();
        endsTooEarlyAtHundred();
        newestHolds();
        sixLands();
        onAndBack();
        someClause();
        rhythm();
        Due.end("Terms1Test");
    }

    // "CELLS 0 .. 35 (six rows of six: CELL 6 r + c)"
    private static void cells() {
        for (int r = 0; r < 6; r++) {
            for (int c = 0; c < 6; c++) {
                TwoOnOneBack x = Due.on("wall r=" + r + "&c=" + c);
                for (int cell = 0; cell < 36; cell++) {
                    Due.is("wall r=" + r + "&c=" + c + " in " + cell, x.ground(cell, 0), cell == 6 * r + c ? 1 : 0);
                }
            }
        }
        TwoOnOneBack x = Due.on("wall i=35");
        Due.is("the last cell", x.ground(35, 0), 1);
        Due.is("one further", x.ground(36, 0), -1);
        Due.is("one ahead of the first", x.ground(-1, 0), -1);
    }

    private static int beside(int cell, int way) {
        int r = cell / 6 + new int[] {-1, 0, 1, 0}[way];
        int c = cell % 6 + new int[] {0, 1, 0, -1}[way];
        return r < 0 || r > 5 || c < 0 || c > 5 ? -1 : 6 * r + c;
    }

    // "WAYS: 0 a row up (less), 1 a column right, 2 a row down, 3 a column left": none leads off THE GROUND
    private static void ways() {
        for (int cell = 0; cell < 36; cell++) {
            TwoOnOneBack x = new TwoOnOneBack();
            x.walker(1, 0, cell, 0);
            int steps = 0;
            for (int way = 0; way < 4; way++) {
                int to = beside(cell, way);
                steps |= to < 0 ? 0 : 1 << way;
                x.put(0, cell, 0, 0);
                Due.is("from " + cell + " by " + way, x.step(0, way), to < 0 ? -3 : to);
            }
            x.put(0, cell, 0, 0);
            Due.is("ways out of " + cell, x.may(0), steps);
        }
    }

    // "the one across of WAY w is the one 2 further (modulo 4)"
    private static void across() {
        for (int cell = 0; cell < 36; cell++) {
            TwoOnOneBack x = new TwoOnOneBack();
            x.walker(0, 0, cell, 0);
            for (int way = 0; way < 4; way++) {
                int to = beside(cell, (way + 2) % 4);
                x.put(0, cell, way, 2);
                Due.is("back in " + cell + " facing " + way, x.may(0), to < 0 ? 32 : 16);
                Due.is("back from " + cell + " facing " + way, x.step(0, 4), to < 0 ? -3 : to);
            }
        }
    }

    /** A LAND of so many signs, 23 at least. */
    private static String filler(int length) {
        StringBuilder text = new StringBuilder("wall r=1");
        for (int n = (length - 8) % 4; n > 0; n--) {
            text.append("|r=11");
        }
        while (text.length() < length) {
            text.append("|r=1");
        }
        return text.toString();
    }

    // "THE TEXT (bytes, 100 at most)"
    private static void hundredSigns() {
        TwoOnOneBack x = new TwoOnOneBack();
        String text = filler(100);
        for (int k = 0; k < 100; k++) {
            Due.is("sign " + k, x.feed(text.charAt(k)), k + 1);
        }
        Due.is("one more", x.feed('2'), -4);
        Due.is("still 100", x.count(4), 100);
        Due.is("a land of 100", x.land(), 0);
        Due.is("its wall", x.ground(6, 0), 1);
        Due.is("the sign that was refused is not in it", x.ground(12, 0), 0);
        Due.is("a first sign again", x.feed('2'), 1);
    }

    // "CLAUSES, 1 to 10, with ; between"
    private static void clauses() {
        Due.fault("", 0);
        Due.fault(";", 0);
        for (String word : WORDS) {
            String one = word + (word.length() > 3 && !word.equals("back ") ? "r=1" : "1");
            Due.fault(one, -1);
            Due.fault(one + ";", one.length() + 1);
            Due.fault(one + ";;" + one, one.length() + 1);
            Due.fault(one + " ;" + one, one.length());
            Due.fault(one + "," + one, one.length());
            Due.fault(";" + one, 0);
        }
        StringBuilder text = new StringBuilder("on 1");
        for (int n = 2; n <= 10; n++) {
            text.append(n % 2 == 0 ? ";back 1" : ";on 1");
            Due.fault(text.toString(), -1);
        }
        int ten = text.length();
        Due.fault(text + ";on 1", ten);
        Due.fault(text + ";", ten);
        Due.fault(text + "1;", ten + 1);
        text = new StringBuilder("wall i=0");
        for (int n = 1; n < 10; n++) {
            text.append(";wall i=").append(n);
        }
        TwoOnOneBack x = Due.on(text.toString());
        for (int cell = 0; cell < 12; cell++) {
            Due.is("ten walls in " + cell, x.ground(cell, 0), cell < 10 ? 1 : 0);
        }
    }

    // "one blank ahead of each part behind the word"
    private static void blanks() {
        for (String word : WORDS) {
            String part = word.equals("on ") || word.equals("back ") ? "2" : "r=1";
            int n = word.length();
            Due.fault(word + part, -1);
            Due.fault(word.trim() + part, n - 1);
            Due.fault(word.trim() + "\t" + part, n - 1);
            Due.fault(word + " " + part, n);
            Due.fault(" " + word + part, 0);
            Due.fault(word + part + " ", n + part.length());
            Due.fault("on 1; " + word + part, 5);
            Due.fault(word.toUpperCase() + part, 0);
        }
    }

    // "n 1 or 2 digits", "a number (1 or 2 digits)"
    private static void digits() {
        String[] heads = {"on ", "back ", "wall r=", "ledge c<", "door s>", "stair d=", "wall i<"};
        for (String head : heads) {
            int n = head.length();
            Due.fault(head, n);
            Due.fault(head + ";on 1", n);
            for (int digit = 0; digit < 10; digit++) {
                Due.fault(head + digit, -1);
                Due.fault(head + digit + (9 - digit), -1);
                Due.fault(head + digit + digit + digit, n + 2);
            }
            Due.fault(head + "000", n + 2);
            Due.fault(head + "-1", n);
            Due.fault(head + "1-", n + 1);
            Due.fault(head + "/", n);
            Due.fault(head + ":", n);
            Due.fault(head + "1/", n + 1);
            Due.fault(head + "1:", n + 1);
        }
    }

    // "E: T or T|E. T: F or F&T. F: !F, (E), or a TEST"
    private static void parts() {
        Due.fault("wall |r=1", 5);
        Due.fault("wall &r=1", 5);
        Due.fault("wall r=1|", 9);
        Due.fault("wall r=1&", 9);
        Due.fault("wall r=1||r=2", 9);
        Due.fault("wall r=1&&r=2", 9);
        Due.fault("wall r=1|&r=2", 9);
        Due.fault("wall r=1!r=2", 8);
        Due.fault("wall r=1(r=2)", 8);
        Due.fault("wall (r=1)r=2", 10);
        Due.fault("wall (r=1)!r=2", 10);
        Due.fault("wall (r=1)2", 10);
        Due.fault("wall ()", 6);
        Due.fault("wall (|r=1)", 6);
        Due.fault("wall (r=1|)", 10);
        Due.fault("wall (r=1;on 1)", 9);
        Due.fault("wall (r=1", 9);
        Due.fault("wall r=1)", 8);
        Due.fault("wall (r=1))", 10);
        Due.fault("wall !", 6);
        Due.fault("wall !)", 6);
        Due.fault("wall r!=1", 6);
        Due.fault("wall r<=1", 7);
        Due.fault("on (1)", 3);
        Due.fault("on !1", 3);
        Due.fault("on r=1", 3);
        Due.fault("on 1|on 2", 4);
        holds("r=0|c=0&r=1", Due.bits(0, 1, 2, 3, 4, 5, 6));
        holds("c=0&r=1|r=0", Due.bits(0, 1, 2, 3, 4, 5, 6));
        holds("(r=0|c=0)&r=1", Due.bits(6));
        holds("!i>0|i=9", Due.bits(0, 9));
        holds("!(i>0&i<35)", Due.bits(0, 35));
        holds("!i<35&!i=35|i=1", Due.bits(1));
    }

    private static void holds(String e, long cells) {
        TwoOnOneBack x = Due.on("stair " + e);
        for (int cell = 0; cell < 36; cell++) {
            Due.is(e + " in " + cell, x.ground(cell, 3), cells >> cell & 1);
        }
    }

    // "A ( or ! within 4 others is none": any four, and any fifth
    private static void within() {
        for (int four = 0; four < 16; four++) {
            StringBuilder open = new StringBuilder();
            StringBuilder close = new StringBuilder();
            for (int k = 0; k < 4; k++) {
                boolean not = (four >> k & 1) == 0;
                open.append(not ? '!' : '(');
                close.append(not ? "" : ")");
            }
            Due.fault("wall " + open + "r=1" + close, -1);
            Due.fault("wall " + open + "r=1" + close + "&" + open + "r=1" + close + "|" + open + "c=1" + close, -1);
            Due.fault("wall " + open + "!r=1" + close, 9);
            Due.fault("wall " + open + "(r=1)" + close, 9);
            // a ! ends with its F, a ( does not
            Due.fault("wall " + open + "r=1|(c=1)" + close, four >= 8 ? 13 : -1);
        }
        for (String word : WORDS) {
            if (word.length() > 4 && !word.equals("back ")) {
                Due.fault(word + "((!(r=1)))", -1);
                Due.fault(word + "((!((r=1))))", word.length() + 4);
                Due.fault(word + "!(!(!r=1))", word.length() + 4);
            }
        }
        // those beside are not others that it is within
        Due.fault("wall (r=1)&(r=2)|(r=3)&(r=4)|(r=5)", -1);
        Due.fault("wall !r=1&!r=2|!r=3&!r=4|!r=5", -1);
        Due.fault("wall (((!r=1&!r=2|!r=3&(r=4))))", -1);
        Due.fault("wall (((!r=1&!r=2|!r=3&((r=4)))))", 24);
        holds("!!!!i=7", Due.bits(7));
        holds("!(!(i=7|i=8))", Due.bits(7, 8));
    }

    /** Where the fault is, if a sign stands at a place of "wall r=1": -1 none. */
    private static int faultBySign(int place, char sign) {
        boolean digit = sign >= '0' && sign <= '9';
        switch (place) {
            case 0: return sign == 'w' ? -1 : sign == 'b' ? 2 : "olds".indexOf(sign) >= 0 ? 1 : 0;
            case 5: return "rcsdi".indexOf(sign) >= 0 ? -1 : sign == '!' || sign == '(' ? 6 : 5;
            case 6: return sign == '<' || sign == '=' || sign == '>' ? -1 : 6;
            case 7: return digit ? -1 : 7;
            case 8: return digit ? -1 : sign == '|' || sign == '&' || sign == ';' ? 9 : 8;
            default: return sign == "wall r=1".charAt(place) ? -1 : place;
        }
    }

    // every sign at every place of a land, and behind it
    private static void signs() {
        for (int place = 0; place <= 8; place++) {
            for (char sign = 0; sign < 128; sign++) {
                String land = "wall r=1";
                String behind = place < 8 ? land.substring(place + 1) : "";
                Due.fault(land.substring(0, place) + sign + behind, faultBySign(place, sign));
            }
        }
    }

    private static int measured(int letter, int cell) {
        int r = cell / 6;
        int c = cell % 6;
        return new int[] {r, c, r + c, Math.max(r, c) - Math.min(r, c), cell}[letter];
    }

    // "r the row, c the column of a CELL, s both together, d how far both are apart, i the CELL's number"
    private static void tests() {
        for (int letter = 0; letter < 5; letter++) {
            for (int n = 0; n < 100; n += n < 38 ? 1 : 61) {
                tests(letter, '<', n);
                tests(letter, '=', n);
                tests(letter, '>', n);
            }
        }
        holds("i=07", Due.bits(7));
        holds("r=00", Due.bits(0, 1, 2, 3, 4, 5));
    }

    private static void tests(int letter, char sign, int n) {
        long cells = 0;
        for (int cell = 0; cell < 36; cell++) {
            int value = measured(letter, cell);
            boolean so = sign == '<' ? value < n : sign == '=' ? value == n : value > n;
            cells |= so ? 1L << cell : 0;
        }
        holds("" + LETTERS.charAt(letter) + sign + n, cells);
    }

    // "The FAULT: .. the end of THE TEXT, if it ends too early": each part of a land, those named are lands themselves
    private static void endsTooEarly() {
        endsTooEarly("back 3;wall !(r=1|c<22)&s>10;door d=0", "back 3", "back 3;wall !(r=1|c<22)",
            "back 3;wall !(r=1|c<22)&s>1", "back 3;wall !(r=1|c<22)&s>10");
        endsTooEarly("on 14;ledge (i=1);stair !r=1", "on 1", "on 14", "on 14;ledge (i=1)");
    }

    private static void endsTooEarly(String land, String... lands) {
        Due.fault(land, -1);
        for (int n = 0; n < land.length(); n++) {
            String part = land.substring(0, n);
            Due.fault(part, List.of(lands).contains(part) ? -1 : n);
        }
    }

    // ".. at 100, too"
    private static void endsTooEarlyAtHundred() {
        String[] ends = {"|", "&", "|r", "|r<", "|!", "|(", "|(r=1", "|!(", "|!(c", ";", ";o", ";on", ";on ", ";b",
            ";back ", ";wal", ";wall", ";wall ", ";ledge", ";door d", ";stair !", ";stair (i=10"};
        for (String end : ends) {
            for (int length = 97; length <= 100; length++) {
                Due.fault(filler(length - end.length()) + end, length);
            }
        }
        Due.fault(filler(99) + "x", 99);
        Due.fault(filler(99) + ";", 100);
        Due.fault(filler(100), -1);
        Due.fault(filler(99), -1);
    }

    // "The newest LAND holds", "the one that held holds"
    private static void newestHolds() {
        TwoOnOneBack x = new TwoOnOneBack();
        Due.is("a fault without a land", Due.land(x, "on 4;wall r=1;"), -24);
        Due.is("none yet", x.count(1), 0);
        Due.is("on without", x.told(0), 2);
        Due.is("no wall", x.ground(6, 0), 0);
        Due.is("a land behind a fault", Due.land(x, "on 3;wall c=1"), 0);
        Due.is("it holds", x.told(0), 3);
        Due.is("nothing is left of the fault", x.ground(6, 0), 0);
        Due.is("a fault", Due.land(x, "on 1;wall c=2|"), -24);
        Due.is("the one that held holds", x.told(0), 3);
        Due.is("its wall", x.ground(1, 0), 1);
        Due.is("a newer one", Due.land(x, "back 2;ledge c=2"), 1);
        Due.is("nothing is left of the older one", x.told(0), 2);
        Due.is("its back", x.told(1), 2);
        Due.is("no wall of the older one", x.ground(1, 0), 0);
        Due.is("nothing in the text", x.land(), -10);
        Due.is("lands", x.count(1), 2);
    }

    // "(6 at most)"
    private static void sixLands() {
        TwoOnOneBack x = new TwoOnOneBack();
        for (int n = 0; n < 6; n++) {
            Due.is("a fault does not count", Due.land(x, "on"), -12);
            Due.is("land", Due.land(x, "wall i=" + n), n);
            Due.is("lands", x.count(1), n + 1);
        }
        for (int n = 0; n < 3; n++) {
            Due.is("a seventh", Due.land(x, "x"), -4);
            Due.is("its text stays", x.count(4), n + 1);
        }
        Due.is("lands", x.count(1), 6);
        Due.is("the sixth holds", x.ground(5, 0), 1);
    }

    // "the last one's n, 1 at least, 4 at most (0 told is 1, 99 is 4)"
    private static void onAndBack() {
        for (int n = 0; n < 100; n++) {
            int want = n < 1 ? 1 : Math.min(n, 4);
            TwoOnOneBack x = Due.on("on " + n);
            Due.is("on " + n, x.told(0), want);
            Due.is("back without", x.told(1), 1);
            x = Due.on("back " + n);
            Due.is("back " + n, x.told(1), want);
            Due.is("on without", x.told(0), 2);
            x = Due.on("on 3;back 3;on " + n + ";back " + (99 - n));
            Due.is("the last on " + n, x.told(0), want);
            Due.is("the last back " + (99 - n), x.told(1), 99 - n < 1 ? 1 : Math.min(99 - n, 4));
        }
        TwoOnOneBack x = Due.on("on 04;back 00;wall r=3;on 03");
        Due.is("on 03", x.told(0), 3);
        Due.is("back 00", x.told(1), 1);
    }

    // "a CELL is one, if E of some such clause holds"
    private static void someClause() {
        String[] words = {"wall ", "ledge ", "door ", "stair "};
        StringBuilder text = new StringBuilder();
        for (int what = 0; what < 4; what++) {
            text.append(words[what]).append("i=").append(what).append(';').append(words[what]).append("i=9;");
        }
        text.append("wall i=10;stair i=11");
        TwoOnOneBack x = Due.on(text.toString());
        for (int what = 0; what < 4; what++) {
            for (int cell = 0; cell < 36; cell++) {
                boolean so = cell == what || cell == 9 || cell == 10 && what == 0 || cell == 11 && what == 3;
                Due.is("of two clauses: " + what + " in " + cell, x.ground(cell, what), so ? 1 : 0);
            }
        }
    }

    // "BEATS 0 .. on and back - 1, over and over: those below on are ON beats, the others BACK beats"
    private static void rhythm() {
        for (int on = 1; on <= 4; on++) {
            for (int back = 1; back <= 4; back++) {
                TwoOnOneBack x = Due.on("back " + back + ";on " + on);
                int all = on + back;
                x.walker(1, 0, 14, 1);
                for (int beat = 0; beat < 8; beat++) {
                    x.put(0, 14, 1, beat);
                    boolean ahead = beat % all < on;
                    Due.is("beat " + beat + " of " + all, x.of(0, 4), beat % all);
                    Due.is("may at beat " + beat + " of " + on + " and " + back, x.may(0), ahead ? 15 : 16);
                    x.step(0, ahead ? 1 : 4);
                    Due.is("the beat behind " + beat + " of " + all, x.of(0, 4), (beat + 1) % all);
                }
                Due.is("all beats", x.tracks(0, 0), (1 << all) - 1);
            }
        }
    }
}
