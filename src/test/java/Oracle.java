import java.util.ArrayList;
import java.util.HashMap;
import java.util.HashSet;
import java.util.LinkedHashMap;
import java.util.LinkedHashSet;
import java.util.List;
import java.util.Map;
import java.util.Set;
import java.util.TreeSet;

/** The document's words taken literally over texts, as slow as that is. Hedges, definitions and functions are their texts. */
final class Oracle {
    /** A smallest hedge may be too large for texts: then a sample is left out. */
    static final int LARGEST = 60;
    private static final int MOST = 200;

    final String[] definitions = new String[6];
    final String[] functions = new String[3];
    private final Map<String, Boolean> known = new HashMap<>();
    private Map<String, String> kinds;
    boolean tooLarge;

    void define(String text) {
        definitions[text.charAt(0) - 'A'] = text.substring(2);
        known.clear();
        kinds = null;
        tooLarge = false;
    }

    /** How many items there are together when this definition is in place of the old one. */
    int countItems(String text) {
        int items = 0;
        for (int name = 0; name < 6; name++) {
            String each = name == text.charAt(0) - 'A' ? text : definitions[name];
            items += each == null ? 0 : each.replaceAll("[^#a-d]", "").length();
        }
        return items;
    }

    void defineFunction(String text) {
        functions[text.charAt(0) - 'f'] = text;
    }

    static int sizeOf(String hedge) {
        int size = 0;
        for (char c : hedge.toCharArray()) {
            size += c == '[' || c == ']' ? 0 : 1;
        }
        return size;
    }

    /** The index of the first node's last character. */
    static int firstEnd(String hedge) {
        if (hedge.charAt(0) <= '9') {
            return 0;
        }
        int depth = 0;
        for (int k = 1; ; k++) {
            depth += hedge.charAt(k) == '[' ? 1 : hedge.charAt(k) == ']' ? -1 : 0;
            if (depth == 0) {
                return k;
            }
        }
    }

    static String contentOf(String hedge) {
        return hedge.charAt(0) <= '9' ? null : hedge.substring(2, firstEnd(hedge));
    }

    static String tailOf(String hedge) {
        return hedge.substring(firstEnd(hedge) + 1);
    }

    String[] alternatives(int name) {
        return definitions[name] == null ? new String[0] : definitions[name].split("\\|", -1);
    }

    boolean belongs(String hedge, int name) {
        return belongs(hedge, name, new HashSet<>());
    }

    private boolean belongs(String hedge, int name, Set<String> under) {
        for (String alternative : alternatives(name)) {
            if (belongsToRest(hedge, alternative, under)) {
                return true;
            }
        }
        return false;
    }

    boolean belongsToRest(String hedge, String rest) {
        String key = hedge + "@" + rest;
        Boolean answer = known.get(key);
        if (answer == null) {
            answer = belongsToRest(hedge, rest, new HashSet<>());
            known.put(key, answer);
        }
        return answer;
    }

    /** Under: the rests asked of this same hedge already, which a finite derivation need not ask again. */
    private boolean belongsToRest(String hedge, String rest, Set<String> under) {
        if (!under.add(rest)) {
            return false;
        }
        if (rest.isEmpty()) {
            return hedge.isEmpty();
        }
        if (isName(rest.charAt(0))) {
            return belongs(hedge, rest.charAt(0) - 'A', under);
        }
        String behind = rest.substring(itemLength(rest));
        char mark = rest.charAt(itemLength(rest) - 1);
        if (!hedge.isEmpty() && fits(hedge, rest)) {
            if (belongsToRest(tailOf(hedge), behind) || mark == '*' && belongsToRest(tailOf(hedge), rest)) {
                return true;
            }
        }
        return (mark == '*' || mark == '?') && belongsToRest(hedge, behind, under);
    }

    private boolean fits(String hedge, String item) {
        if (item.charAt(0) == '#') {
            return hedge.charAt(0) <= '9';
        }
        return hedge.charAt(0) == item.charAt(0) && belongs(contentOf(hedge), item.charAt(2) - 'A');
    }

    static boolean isName(char c) {
        return c >= 'A' && c <= 'F';
    }

    static int itemLength(String rest) {
        int length = rest.charAt(0) == '#' ? 1 : 4;
        return length < rest.length() && "*?".indexOf(rest.charAt(length)) >= 0 ? length + 1 : length;
    }

    String signature(String hedge) {
        StringBuilder signature = new StringBuilder(hedge.isEmpty() ? "e" : "n");
        for (int name = 0; name < 6; name++) {
            for (String alternative : alternatives(name)) {
                String rest = alternative;
                signature.append(belongsToRest(hedge, rest) ? '1' : '0');
                while (!rest.isEmpty() && !isName(rest.charAt(0))) {
                    rest = rest.substring(itemLength(rest));
                    signature.append(belongsToRest(hedge, rest) ? '1' : '0');
                }
            }
        }
        return signature.toString();
    }

    static boolean comesBefore(String one, String other) {
        return sizeOf(one) != sizeOf(other) ? sizeOf(one) < sizeOf(other) : one.compareTo(other) < 0;
    }

    /** Each kind with its smallest hedge (of several the first one); null when there are more than 40. */
    Map<String, String> kinds() {
        if (kinds == null) {
            kinds = new LinkedHashMap<>();
            kinds.put(signature(""), "");
            boolean changed = true;
            while (changed && kinds.size() <= 40 && !tooLarge) {
                changed = false;
                for (String hedge : cuts(new ArrayList<>(kinds.values()))) {
                    String signature = signature(hedge);
                    String old = kinds.get(signature);
                    tooLarge |= old == null && sizeOf(hedge) > LARGEST;
                    if (old == null || comesBefore(hedge, old)) {
                        kinds.put(signature, hedge);
                        changed = true;
                    }
                    if (kinds.size() > 40 || tooLarge) {
                        break;
                    }
                }
            }
        }
        return kinds.size() > 40 ? null : kinds;
    }

    static List<String> cuts(List<String> hedges) {
        List<String> cuts = new ArrayList<>();
        cuts.add("");
        for (String tail : hedges) {
            cuts.add("0" + tail);
            for (String content : hedges) {
                for (char label = 'a'; label <= 'd'; label++) {
                    cuts.add(label + "[" + content + "]" + tail);
                }
            }
        }
        return cuts;
    }

    /** The first smallest hedge that belongs to one name and not to the other (-1: whatever the other); null when there is none. */
    String smallest(int one, int other) {
        String best = null;
        for (String hedge : kinds().values()) {
            if (belongs(hedge, one) && (other < 0 || !belongs(hedge, other)) && (best == null || comesBefore(hedge, best))) {
                best = hedge;
            }
        }
        return best;
    }

    String[] clauses(int function) {
        return functions[function].substring(6).split("/");
    }

    int input(int function) {
        return functions[function].charAt(2) - 'A';
    }

    int output(int function) {
        return functions[function].charAt(4) - 'A';
    }

    boolean matches(String hedge, String pattern) {
        if (pattern.equals(".")) {
            return hedge.isEmpty();
        }
        if (hedge.isEmpty()) {
            return false;
        }
        if (pattern.charAt(0) == '#') {
            return hedge.charAt(0) <= '9' && belongs(tailOf(hedge), pattern.charAt(1) - 'A');
        }
        return hedge.charAt(0) == pattern.charAt(0) && belongs(contentOf(hedge), pattern.charAt(2) - 'A')
                && belongs(tailOf(hedge), pattern.charAt(4) - 'A');
    }

    /** Counted from 1; 0 when no clause matches. */
    int choose(int function, String hedge) {
        String[] clauses = clauses(function);
        for (int k = 0; k < clauses.length; k++) {
            if (matches(hedge, clauses[k].substring(0, clauses[k].indexOf('-')))) {
                return k + 1;
            }
        }
        return 0;
    }

    private List<String> inputs(int function) {
        List<String> inputs = new ArrayList<>();
        for (String hedge : cuts(new ArrayList<>(kinds().values()))) {
            if (belongs(hedge, input(function))) {
                inputs.add(hedge);
            }
        }
        return inputs;
    }

    long uncovered(int function) {
        long least = -1;
        for (String hedge : inputs(function)) {
            if (choose(function, hedge) == 0 && (least < 0 || sizeOf(hedge) < least)) {
                least = sizeOf(hedge);
            }
        }
        return least;
    }

    int useless(int function) {
        Set<Integer> used = new HashSet<>();
        for (String hedge : inputs(function)) {
            used.add(choose(function, hedge));
        }
        used.remove(0);
        return clauses(function).length - used.size();
    }

    int wrong(int function) {
        Set<Integer> wrong = new TreeSet<>();
        for (String hedge : inputs(function)) {
            int clause = choose(function, hedge);
            if (clause > 0 && !wrong.contains(clause) && isWrong(function, clause, hedge)) {
                wrong.add(clause);
            }
        }
        return wrong.isEmpty() ? 0 : wrong.iterator().next();
    }

    boolean isWrong(int function, int clause, String hedge) {
        String result = result(function, clause);
        if (hasWrongCall(result, hedge)) {
            return true;
        }
        for (String possible : possible(result, hedge)) {
            if (!belongs(possible, output(function))) {
                return true;
            }
        }
        return false;
    }

    /** The same as far as it is seen with only these hedges in place of the calls, and without a thought of kinds. */
    boolean isSeenWrong(int function, int clause, String hedge, List<String> fillings) {
        String result = result(function, clause);
        if (hasWrongCall(result, hedge)) {
            return true;
        }
        List<String> filled = new ArrayList<>();
        fill(result, "", hedge, fillings, filled);
        for (String each : filled) {
            if (!belongs(each, output(function))) {
                return true;
            }
        }
        return false;
    }

    private String result(int function, int clause) {
        String text = clauses(function)[clause - 1];
        return text.substring(text.indexOf('-') + 1);
    }

    private boolean hasWrongCall(String result, String hedge) {
        for (int k = 0; k < result.length(); k++) {
            if ("fgh".indexOf(result.charAt(k)) >= 0) {
                int called = result.charAt(k) - 'f';
                if (functions[called] == null || !belongs(argument(result.charAt(k + 2), hedge), input(called))) {
                    return true;
                }
            }
        }
        return false;
    }

    /** Adds what the rest of a result may be behind what is written; no more than MOST, because calls multiply. */
    private void fill(String left, String written, String hedge, List<String> fillings, List<String> filled) {
        if (filled.size() >= MOST) {
            return;
        }
        if (left.isEmpty()) {
            filled.add(written);
        } else if ("fgh".indexOf(left.charAt(0)) >= 0) {
            for (String each : fillings) {
                if (belongs(each, output(left.charAt(0) - 'f'))) {
                    fill(left.substring(4), written + each, hedge, fillings, filled);
                }
            }
        } else {
            char c = left.charAt(0);
            String next = c == 'x' || c == 'y' ? argument(c, hedge) : c == '#' ? hedge.substring(0, 1) : String.valueOf(c);
            fill(left.substring(1), written + next, hedge, fillings, filled);
        }
    }

    private static String argument(char which, String hedge) {
        return which == 'x' ? contentOf(hedge) : tailOf(hedge);
    }

    /** All that the result may be, one hedge a kind in place of calls and of what is put together. */
    private Set<String> possible(String result, String hedge) {
        Set<String> found = new LinkedHashSet<>();
        if (result.isEmpty()) {
            found.add("");
        } else if (result.charAt(0) == 'x' || result.charAt(0) == 'y') {
            found.add(argument(result.charAt(0), hedge));
        } else if ("fgh".indexOf(result.charAt(0)) >= 0) {
            for (String other : kinds().values()) {
                if (belongs(other, output(result.charAt(0) - 'f'))) {
                    found.add(other);
                }
            }
        } else if (result.charAt(0) <= '9') {
            for (String tail : possible(result.substring(1), hedge)) {
                found.add(kinds().get(signature("0" + tail)));
            }
        } else {
            Set<String> tails = possible(tailOf(result), hedge);
            for (String content : possible(contentOf(result), hedge)) {
                for (String tail : tails) {
                    found.add(kinds().get(signature(result.charAt(0) + "[" + content + "]" + tail)));
                }
            }
        }
        return found;
    }

    boolean safe(int function) {
        Set<Integer> led = new TreeSet<>();
        return lead(function, led);
    }

    private boolean lead(int function, Set<Integer> led) {
        if (!led.add(function)) {
            return true;
        }
        if (functions[function] == null || uncovered(function) != -1 || wrong(function) != 0) {
            return false;
        }
        for (int other = 0; other < 3; other++) {
            if (functions[function].contains((char) ('f' + other) + "(") && !lead(other, led)) {
                return false;
            }
        }
        return true;
    }

    private StringBuilder written;
    private int applied;
    private int nodes;
    private int failure;

    /** The answer of run(); the value is in value(). */
    int run(int function, String document) {
        written = new StringBuilder();
        applied = 0;
        nodes = 0;
        failure = 0;
        apply(function, document);
        return failure != 0 ? failure : applied;
    }

    String value() {
        return written.toString();
    }

    private void apply(int function, String hedge) {
        applied++;
        int clause = functions[function] == null ? 0 : choose(function, hedge);
        if (clause == 0) {
            failure = HedgeCheck.STUCK;
            return;
        }
        String text = clauses(function)[clause - 1];
        write(text.substring(text.indexOf('-') + 1), hedge);
    }

    private void write(String result, String hedge) {
        if (failure != 0 || result.isEmpty()) {
            return;
        }
        char c = result.charAt(0);
        if (c == 'x' || c == 'y') {
            for (char each : argument(c, hedge).toCharArray()) {
                writeCharacter(each);
            }
        } else if ("fgh".indexOf(c) >= 0) {
            apply(c - 'f', argument(result.charAt(2), hedge));
        } else if (c <= '9') {
            writeCharacter(c == '#' ? hedge.charAt(0) : c);
            write(result.substring(1), hedge);
        } else {
            writeCharacter(c);
            written.append('[');
            write(contentOf(result), hedge);
            written.append(']');
            write(tailOf(result), hedge);
        }
    }

    private void writeCharacter(char c) {
        if (failure != 0) {
            return;
        }
        nodes += c == '[' || c == ']' ? 0 : 1;
        if (nodes > 20) {
            failure = HedgeCheck.FULL;
            return;
        }
        written.append(c);
    }
}
