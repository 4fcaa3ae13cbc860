/** Promises 3 and 5: texts by the thousand, right and wrong ones, against LandText, which reads them another way. */
public final class LandTextTest {
    private static final String[] WORDS = {"on ", "back ", "wall ", "ledge ", "door ", "stair "};
    private static final String SIGNS = "onbackwledgrstirc 0129;|&!()<=>sdi";
    private static long seed = 7;

    public static void main(String[] args) {
        int lands = 0;
        for (int n = 0; n < 3000; n++) {
            lands += compare(n % 3 == 0 ? land() : spoilt(land())) ? 1 : 0;
        }
        Due.holds("some are lands, some are not", lands > 300 && lands < 2700);
        Due.end("LandTextTest");
    }

    private static int below(int bound) {
        seed = seed * 6364136223846793005L + 1442695040888963407L;
        return (int) ((seed >>> 33) % bound);
    }

    private static boolean compare(String text) {
        TwoOnOneBack x = new TwoOnOneBack();
        int fault = LandText.fault(text);
        int got = Due.land(x, text);
        Due.is("land of " + text, got, fault < 0 ? 0 : -10 - fault);
        if (fault >= 0 || got != 0) {
            return false;
        }
        String[] words = {"wall", "ledge", "door", "stair"};
        for (int cell = 0; cell < 36; cell++) {
            for (int what = 0; what < 4; what++) {
                boolean want = LandText.marks(text, words[what], cell);
                Due.is(text + " ground " + cell + " " + what, x.ground(cell, what), want ? 1 : 0);
            }
        }
        return true;
    }

    private static String land() {
        StringBuilder text = new StringBuilder(clause());
        for (int n = below(below(4) == 0 ? 12 : 3); n > 0; n--) {
            text.append(';').append(clause());
        }
        return text.length() > 100 ? text.substring(0, 100) : text.toString();
    }

    private static String clause() {
        int word = below(6);
        return WORDS[word] + (word < 2 ? number() : either(0));
    }

    private static String number() {
        return String.valueOf(below(below(3) == 0 ? 100 : 7));
    }

    private static String either(int within) {
        return below(3) == 0 ? both(within) + "|" + either(within) : both(within);
    }

    private static String both(int within) {
        return below(3) == 0 ? single(within) + "&" + both(within) : single(within);
    }

    private static String single(int within) {
        int lot = within > 4 ? 9 : below(5);
        if (lot == 0) {
            return "!" + single(within + 1);
        }
        if (lot == 1) {
            return "(" + either(within + 1) + ")";
        }
        return "" + "rcsdi".charAt(below(5)) + "<=>".charAt(below(3)) + number();
    }

    private static String spoilt(String text) {
        int at = below(text.length());
        char sign = SIGNS.charAt(below(SIGNS.length()));
        switch (below(4)) {
            case 0: return text.substring(0, at);
            case 1: return text.substring(0, at) + text.substring(at + 1);
            case 2: return text.substring(0, at) + sign + text.substring(at + 1);
            default: return text.length() > 99 ? text : text.substring(0, at) + sign + text.substring(at);
        }
    }
}
