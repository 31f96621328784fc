import java.util.Random;
import java.util.regex.Matcher;
import java.util.regex.Pattern;

/** The stops of random pads, against the grammar as regular expressions with the limits counted beside them (promises 4 and 5). */
final class StopTest {
    private static final int SAMPLES = 40000;
    private static final String NAME = "[A-F]";
    private static final String ITEM = "(?:#|[a-d]\\[[A-F]\\])[*?]?";
    private static final String ALTERNATIVE = "(?:" + ITEM + ")*" + NAME + "?";
    private static final Pattern DEFINITION = Pattern.compile(NAME + "=" + ALTERNATIVE + "(?:\\|" + ALTERNATIVE + "){0,7}");
    private static final Pattern FUNCTION = Pattern.compile("[fgh]:" + NAME + ">" + NAME + "(?:/" + clause() + "){1,6}");
    private static final Pattern HEDGE = Pattern.compile(hedge(13));
    private static final String[] SEEDS = {
        "A=a[B]*|b[C]?#*D", "B=#?C", "C=", "D=|||||||", "E=################", "F=a[A]b[B]?c[C]*d[D]|#|A",
        "A=########|########", "A=||||||||", "B=a[A]A|B|C|D|E|F|#|A|",
        "f:A>B/.-", "g:B>C/b[C]F-x", "f:A>E/.-/a[B]A-d[g(x)]f(y)", "h:A>B/#C-#a[#b[y]1]g(y)",
        "f:A>A/.-/.-/.-/.-/.-/.-", "f:A>A/.-/.-/.-/.-/.-/.-/.-", "g:F>D/#A-123456789012", "g:F>D/#A-1a[b[c[d[#]]]]89012",
        "g:A>A/a[A]A-a[x]b[y]c[f(x)]d[g(y)]h(x)/#B-a[#]a[f(y)]a[y]g(y)/.-a[b[]]0",
        "a[a[]b[1c[2]]]3d[]", "0123456789", "a[a[a[a[a[a[a[a[a[a[a[a[]]]]]]]]]]]]", "a[]b[]c[]d[]0123a[]b[]c[]d[]", "",
    };
    private static final String LETTERS = "ABCDEFabcdfghxy0129#[]()*?|/.:>-= ~z";

    public static void main(String[] args) {
        Due due = new Due();
        Random random = new Random(7);
        due.about = "stops";
        for (int sample = 0; sample < SAMPLES; sample++) {
            String text = sample < SEEDS.length ? SEEDS[sample] : change(SEEDS[random.nextInt(SEEDS.length)], random);
            due.again().enter(text, enterAnswer(text));
            due.is("read of " + text, due.h.read(), answerFor(text, HEDGE));
        }
        Due.end();
    }

    private static String clause() {
        String call = "[fgh]\\([xy]\\)";
        String yCall = "[fgh]\\(y\\)";
        return "(?:\\.-" + result("[0-9]", "", 13) + "|#" + NAME + "-" + result("[0-9#]", "(?:y|" + yCall + ")?", 13)
                + "|[a-d]\\[" + NAME + "\\]" + NAME + "-" + result("[0-9]", "(?:x|y|" + call + ")?", 13) + ")";
    }

    private static String result(String leaf, String end, int depth) {
        String inside = depth == 0 ? "" : "|[a-d]\\[" + result(leaf, end, depth - 1) + "\\]";
        return "(?:" + leaf + inside + ")*+" + end;
    }

    private static String hedge(int depth) {
        return "(?:[0-9]" + (depth == 0 ? "" : "|[a-d]\\[" + hedge(depth - 1) + "\\]") + ")*+";
    }

    private static String change(String seed, Random random) {
        StringBuilder text = new StringBuilder(seed);
        int changes = random.nextInt(4);
        for (int k = 0; k < changes; k++) {
            int at = random.nextInt(text.length() + 1);
            char c = LETTERS.charAt(random.nextInt(LETTERS.length()));
            if (random.nextInt(3) == 0 || at == text.length()) {
                text.insert(at, c);
            } else if (random.nextBoolean()) {
                text.setCharAt(at, c);
            } else {
                text.deleteCharAt(at);
            }
        }
        if (random.nextInt(4) == 0) {
            text.setLength(random.nextInt(text.length() + 1));
        }
        return text.substring(0, Math.min(80, text.length()));
    }

    private static int enterAnswer(String text) {
        char first = text.isEmpty() ? ' ' : text.charAt(0);
        return first >= 'f' && first <= 'h' ? answerFor(text, FUNCTION) : answerFor(text, DEFINITION);
    }

    /** 0, or 1 and the length of the longest beginning that something can be made of. */
    private static int answerFor(String text, Pattern pattern) {
        for (int length = 0; length <= text.length(); length++) {
            String start = text.substring(0, length);
            Matcher matcher = pattern.matcher(start);
            boolean whole = matcher.matches();
            if (!withinLimits(start, pattern) || !whole && !matcher.hitEnd()) {
                return length;
            }
            if (length == text.length()) {
                return whole ? 0 : 1 + length;
            }
        }
        return -1;
    }

    private static boolean withinLimits(String start, Pattern pattern) {
        if (pattern == HEDGE) {
            return start.replaceAll("[^0-9a-d]", "").length() <= 12;
        }
        if (pattern == DEFINITION) {
            return start.replaceAll("[^#a-d]", "").length() <= 16;
        }
        for (String clause : start.split("/")) {
            String result = clause.substring(clause.indexOf('-') + 1);
            if (clause.indexOf('-') >= 0 && result.replaceAll("[^0-9#a-d]", "").length() > 12) {
                return false;
            }
        }
        return true;
    }
}
