import java.util.ArrayList;
import java.util.List;
import java.util.Random;
import java.util.Set;
import java.util.TreeSet;

/** Random definitions, functions and hedges: every answer against the oracle's (promises 4, 5 and 8 to 21). */
final class RandomTest {
    private static final int SAMPLES = 400;
    private static final Due due = new Due().withoutEnd();
    private static Oracle oracle;
    private static Random random;
    /** Few labels and many items make many kinds. */
    private static boolean rich;
    private static String labels;
    private static int names;

    public static void main(String[] args) {
        int samples = args.length > 0 ? Integer.parseInt(args[0]) : SAMPLES;
        int from = args.length > 1 ? Integer.parseInt(args[1]) : 0;
        for (int sample = from; sample < from + samples; sample++) {
            random = new Random(sample);
            due.fresh("sample " + sample);
            oracle = new Oracle();
            rich = sample % 2 == 0;
            labels = "dcba".substring(random.nextInt(3)) + "dcba".substring(0, random.nextInt(3));
            labels = labels.substring(0, 1 + random.nextInt(rich ? 2 : labels.length()));
            names = 1 + random.nextInt(6);
            for (int turn = 0; turn < 4; turn++) {
                if (turn % 2 == 0) {
                    defineTypes();
                    askKinds();
                    tryAllSmall();
                }
                defineFunctions();
                askChecks();
                checkSmallInputs();
                runAll();
            }
        }
        Due.end();
    }

    private static boolean chance(int percent) {
        return random.nextInt(100) < percent;
    }

    private static char name() {
        return (char) ('A' + random.nextInt(names));
    }

    private static char label() {
        return labels.charAt(random.nextInt(labels.length()));
    }

    /** The second time each in place of the old one, if there is room. */
    private static void defineTypes() {
        int left = 16;
        int share = rich ? 3 + 16 / names : 1 + random.nextInt(5);
        for (int name = 0; name < names; name++) {
            if (chance(rich ? 2 : 10)) {
                continue;
            }
            StringBuilder text = new StringBuilder().append((char) ('A' + name)).append('=');
            int items = Math.min(left, random.nextInt(share + 1));
            left -= items;
            for (int k = 0; k < items; k++) {
                text.append(k > 0 && chance(35) ? "|" : "");
                text.append(chance(25) ? "#" : label() + "[" + name() + "]");
                text.append(chance(20) ? "*" : chance(20) ? "?" : "");
                text.append(chance(25) ? name() + (k < items - 1 || chance(30) ? "|" : "") : "");
            }
            text.append(chance(25) ? "|" : "").append(chance(10) ? "|" + name() : "");
            if (text.length() <= 80 && text.chars().filter(c -> c == '|').count() < 8) {
                define(text.toString());
            }
        }
    }

    private static void define(String text) {
        boolean room = oracle.countItems(text) <= 16;
        due.enter(text, room ? 0 : HedgeCheck.FULL);
        if (room) {
            oracle.define(text);
        }
    }

    private static void askKinds() {
        boolean room = oracle.kinds() != null;
        if (oracle.tooLarge) {
            return;
        }
        due.is("kinds()", due.h.kinds(), room ? oracle.kinds().size() : HedgeCheck.ROOM);
        for (int one = 0; one < 6; one++) {
            String least = room ? oracle.smallest(one, -1) : null;
            due.is("least(" + one + ")", due.h.least(one), answer(room, least));
            for (int other = 0; other < 6; other++) {
                String smallest = room ? oracle.smallest(one, other) : null;
                String call = "(" + one + ", " + other + ")";
                due.is("differ" + call, due.h.differ(one, other), answer(room, smallest));
                String before = due.document();
                due.is("show" + call, due.h.show(one, other), answer(room, smallest));
                boolean shown = smallest != null && Oracle.sizeOf(smallest) <= 12;
                due.is("document after show" + call, due.document(), shown ? smallest : before);
            }
        }
    }

    /** Every hedge of at most 3 nodes by itself, whatever its kind. */
    private static void tryAllSmall() {
        if (oracle.kinds() == null || oracle.tooLarge) {
            return;
        }
        for (String hedge : smallHedges(3)) {
            due.is("kind of " + hedge, oracle.kinds().containsKey(oracle.signature(hedge)), true);
            for (int one = 0; one < names; one++) {
                for (int other = 0; oracle.belongs(hedge, one) && other < names; other++) {
                    if (!oracle.belongs(hedge, other)) {
                        String shown = oracle.smallest(one, other);
                        due.is(hedge + " before " + shown, Oracle.comesBefore(hedge, shown), false);
                    }
                }
            }
        }
    }

    private static List<String> smallHedges(int nodes) {
        List<String> hedges = new ArrayList<>();
        hedges.add("");
        if (nodes > 0) {
            for (String tail : smallHedges(nodes - 1)) {
                hedges.add("0" + tail);
                for (String content : smallHedges(nodes - 1 - Oracle.sizeOf(tail))) {
                    for (char label : labels.toCharArray()) {
                        hedges.add(label + "[" + content + "]" + tail);
                    }
                }
            }
        }
        return hedges;
    }

    private static long answer(boolean room, String hedge) {
        return !room ? HedgeCheck.ROOM : hedge == null ? HedgeCheck.NONE : Oracle.sizeOf(hedge);
    }

    private static void defineFunctions() {
        for (int letter = 0; letter < 3; letter++) {
            if (chance(15)) {
                continue;
            }
            String text = functionText((char) ('f' + letter));
            if (text.length() <= 80) {
                due.enter(text, 0);
                oracle.defineFunction(text);
            }
        }
    }

    private static String functionText(char letter) {
        StringBuilder text = new StringBuilder().append(letter).append(':').append(name()).append('>').append(name());
        int clauses = 1 + random.nextInt(5);
        for (int k = 0; k < clauses; k++) {
            text.append('/');
            if (chance(25)) {
                text.append(".-").append(smallResult(""));
            } else if (chance(35)) {
                text.append('#').append(name()).append('-').append(smallResult("#y"));
            } else {
                text.append(label()).append('[').append(name()).append(']').append(name()).append('-').append(smallResult("xy"));
            }
        }
        return text.toString();
    }

    private static String smallResult(String known) {
        String text = result(known, 3);
        return text.replaceAll("[^0-9#a-d]", "").length() > 12 ? "" : text;
    }

    private static String result(String known, int depth) {
        StringBuilder text = new StringBuilder();
        int parts = random.nextInt(3);
        for (int k = 0; k < parts; k++) {
            if (depth > 0 && chance(60)) {
                text.append(label()).append('[').append(result(known, depth - 1)).append(']');
            } else {
                text.append(known.startsWith("#") && chance(60) ? '#' : (char) ('0' + random.nextInt(10)));
            }
        }
        if (!known.isEmpty() && chance(75)) {
            String end = known.charAt(0) == 'x' && chance(50) ? "x" : "y";
            text.append(chance(50) ? end : (char) ('f' + random.nextInt(3)) + "(" + end + ")");
        }
        return text.toString();
    }

    private static void askChecks() {
        boolean room = oracle.kinds() != null;
        for (int function = 0; function < 3 && !oracle.tooLarge; function++) {
            boolean defined = oracle.functions[function] != null;
            long without = !defined ? HedgeCheck.MISSING : HedgeCheck.ROOM;
            boolean told = defined && room;
            String about = "(" + function + ") " + oracle.functions[function];
            due.is("uncovered" + about, due.h.uncovered(function), told ? oracle.uncovered(function) : without);
            due.is("useless" + about, due.h.useless(function), told ? oracle.useless(function) : without);
            due.is("wrong" + about, due.h.wrong(function), told ? oracle.wrong(function) : without);
            due.is("safe" + about, due.h.safe(function), told && oracle.safe(function));
        }
    }

    /** The check by every input of at most 3 nodes, whatever its kind. */
    private static void checkSmallInputs() {
        for (int function = 0; function < 3 && oracle.kinds() != null && !oracle.tooLarge; function++) {
            if (oracle.functions[function] != null) {
                checkSmallInputs(function, smallHedges(3), smallHedges(1));
            }
        }
    }

    private static void checkSmallInputs(int function, List<String> hedges, List<String> fillings) {
        long least = 4;
        int wrong = 7;
        Set<Integer> chosen = new TreeSet<>();
        for (String hedge : hedges) {
            if (oracle.belongs(hedge, oracle.input(function))) {
                int clause = oracle.choose(function, hedge);
                if (clause == 0) {
                    least = Math.min(least, Oracle.sizeOf(hedge));
                } else {
                    chosen.add(clause);
                    wrong = clause < wrong && oracle.isSeenWrong(function, clause, hedge, fillings) ? clause : wrong;
                }
            }
        }
        String about = " by small hedges of " + oracle.functions[function];
        long uncovered = due.h.uncovered(function);
        due.is("uncovered" + about, uncovered < 0 ? 4 : Math.min(4, uncovered), least);
        int useless = due.h.useless(function);
        due.is("useless" + about, Math.min(useless, oracle.clauses(function).length - chosen.size()), useless);
        int first = due.h.wrong(function);
        due.is("wrong" + about, wrong == 7 || first > 0 && first <= wrong, true);
    }

    private static void runAll() {
        List<String> hedges = new ArrayList<>();
        for (int k = 0; k < 12; k++) {
            hedges.add(hedgeText(1 + random.nextInt(12)));
        }
        if (oracle.kinds() != null && !oracle.tooLarge) {
            for (int name = 0; name < 6; name++) {
                String smallest = oracle.smallest(name, -1);
                hedges.add(smallest == null || Oracle.sizeOf(smallest) > 12 ? "" : smallest);
            }
        }
        for (String hedge : hedges) {
            due.read(hedge, 0);
            String document = hedge;
            askNames(document);
            for (int function = 0; function < 3; function++) {
                boolean safe = due.h.safe(function) && due.h.valid(oracle.input(function));
                int answer = runOne(function, document);
                if (safe) {
                    due.is("stuck though safe", answer == HedgeCheck.STUCK, false);
                    due.is("valid though safe", answer < 0 || due.h.valueValid(oracle.output(function)), true);
                }
                if (answer > 0 && chance(30)) {
                    boolean small = Oracle.sizeOf(due.value()) <= 12;
                    due.is("take()", due.h.take(), small);
                    document = small ? due.value() : document;
                    due.is("document taken", due.document(), document);
                }
            }
        }
    }

    private static int runOne(int function, String document) {
        String before = due.value();
        int want = oracle.functions[function] == null ? HedgeCheck.MISSING : oracle.run(function, document);
        int answer = due.h.run(function);
        due.is("run(" + function + ") " + oracle.functions[function] + " on " + document, answer, want);
        due.is("value", due.value(), want > 0 ? oracle.value() : before);
        due.is("valueSize()", due.h.valueSize(), Oracle.sizeOf(due.value()));
        for (int name = 0; name < 6; name++) {
            due.is("valueValid(" + name + ") of " + due.value(), due.h.valueValid(name), oracle.belongs(due.value(), name));
        }
        return answer;
    }

    private static void askNames(String document) {
        due.is("document", due.document(), document);
        due.is("size()", due.h.size(), Oracle.sizeOf(document));
        for (int name = 0; name < 6; name++) {
            due.is("valid(" + name + ") of " + document, due.h.valid(name), oracle.belongs(document, name));
        }
    }

    /** A hedge that the types say much of more often than chance alone would. */
    private static String hedgeText(int nodes) {
        if (nodes <= 0) {
            return "";
        }
        if (chance(30)) {
            return (char) ('0' + random.nextInt(10)) + hedgeText(nodes - 1);
        }
        int inside = random.nextInt(nodes);
        return label() + "[" + hedgeText(inside) + "]" + hedgeText(nodes - 1 - inside);
    }
}
