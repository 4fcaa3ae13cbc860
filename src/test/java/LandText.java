import java.util.ArrayList;
import java.util.List;

/**
 * What a land's text means, told another way than the class tells it: whole texts are taken apart, not read along;
 * a fault is found by trying whether anything put behind a part of the text makes it a land.
 */
final class LandText {
    private static final String[] WORDS = {"on", "back", "wall", "ledge", "door", "stair"};
    private static final List<String> ENDS = ends();

    private LandText() {
    }

    private static List<String> ends() {
        List<String> ends = new ArrayList<>();
        for (String word : WORDS) {
            String clause = word + (word.equals("on") || word.equals("back") ? " 1" : " r=1");
            for (int k = 0; k <= clause.length(); k++) {
                for (int close = 0; close <= 4; close++) {
                    ends.add(clause.substring(k) + "))))".substring(0, close));
                }
            }
        }
        return ends;
    }

    /** The fault of a text, -1 if it is a land. */
    static int fault(String text) {
        if (isLand(text)) {
            return -1;
        }
        for (int k = 0; k < text.length(); k++) {
            if (!begins(text.substring(0, k + 1))) {
                return k;
            }
        }
        return text.length();
    }

    private static boolean begins(String part) {
        return ENDS.stream().anyMatch(end -> isLand(part + end));
    }

    private static boolean isLand(String text) {
        String[] clauses = text.split(";", -1);
        if (clauses.length > 10) {
            return false;
        }
        for (String clause : clauses) {
            if (!isClause(clause)) {
                return false;
            }
        }
        return true;
    }

    private static boolean isClause(String clause) {
        if (clause.matches("(on|back) [0-9][0-9]?")) {
            return true;
        }
        return clause.matches("(wall|ledge|door|stair) [^ ]+") && either(clause.substring(clause.indexOf(' ') + 1), 0, 0) != null;
    }

    /** Whether some clause of a word holds for a cell. */
    static boolean marks(String land, String word, int cell) {
        for (String clause : land.split(";")) {
            if (clause.startsWith(word + " ") && either(clause.substring(word.length() + 1), cell, 0)) {
                return true;
            }
        }
        return false;
    }

    private static List<String> parts(String e, char sign) {
        List<String> parts = new ArrayList<>();
        int open = 0;
        int begin = 0;
        for (int k = 0; k < e.length(); k++) {
            open += e.charAt(k) == '(' ? 1 : e.charAt(k) == ')' ? -1 : 0;
            if (open < 0) {
                return null;
            }
            if (open == 0 && e.charAt(k) == sign) {
                parts.add(e.substring(begin, k));
                begin = k + 1;
            }
        }
        parts.add(e.substring(begin));
        return open == 0 ? parts : null;
    }

    private static Boolean either(String e, int cell, int within) {
        List<String> parts = parts(e, '|');
        if (parts == null) {
            return null;
        }
        boolean any = false;
        for (String part : parts) {
            Boolean one = both(part, cell, within);
            if (one == null) {
                return null;
            }
            any |= one;
        }
        return any;
    }

    private static Boolean both(String e, int cell, int within) {
        boolean all = true;
        for (String part : parts(e, '&')) {
            Boolean one = single(part, cell, within);
            if (one == null) {
                return null;
            }
            all &= one;
        }
        return all;
    }

    private static Boolean single(String e, int cell, int within) {
        if (e.startsWith("!") && within < 4) {
            Boolean not = single(e.substring(1), cell, within + 1);
            return not == null ? null : Boolean.valueOf(!not);
        }
        if (e.startsWith("(") && e.endsWith(")") && within < 4) {
            return either(e.substring(1, e.length() - 1), cell, within + 1);
        }
        return e.matches("[rcsdi][<=>][0-9][0-9]?") ? test(e, cell) : null;
    }

    private static Boolean test(String e, int cell) {
        int r = cell / 6;
        int c = cell % 6;
        int[] all = {r, c, r + c, r > c ? r - c : c - r, cell};
        int value = all["rcsdi".indexOf(e.charAt(0))];
        int number = Integer.parseInt(e.substring(2));
        return e.charAt(1) == '<' ? value < number : e.charAt(1) == '=' ? value == number : value > number;
    }
}
