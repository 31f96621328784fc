/** Trees with regular types, functions over them, the check of the functions and their running. */
public final class HedgeCheck {
    public static final int NONE = -1;
    public static final int MISSING = -2;
    public static final int ROOM = -3;
    public static final int STUCK = -4;
    public static final int FULL = -5;

    private static final int NAMES = 6;
    private static final int FUNCTIONS = 3;
    private static final int LABELS = 4;
    private static final int PAD = 80;
    private static final int ALTERNATIVES = 8;
    private static final int ITEMS = 16;
    private static final int CLAUSES = 6;
    private static final int PARTS = 12;
    private static final int DOCUMENT = 12;
    private static final int VALUE = 20;
    private static final int KINDS = 40;

    /** What a hedge begins with is a label 0 .. 3 or one of these two. */
    private static final int NUMBER = 4;
    private static final int EMPTY = 5;

    private final char[] pad;
    private int padLength;
    private final Definition[] definitions;
    private Definition spareDefinition;
    private final Function[] functions;
    private Function spareFunction;
    private Hedge document;
    private Hedge spareDocument;
    private Hedge worth;
    private Hedge spareWorth;
    private final Reader reader;
    private final Rests rests;
    private final Kinds table;
    private final Texts texts;
    private final Checker checker;
    private final Runner runner;

    public HedgeCheck() {
        pad = new char[PAD];
        padLength = 0;
        definitions = new Definition[NAMES];
        for (int name = 0; name < NAMES; name++) {
            definitions[name] = new Definition();
        }
        spareDefinition = new Definition();
        functions = new Function[FUNCTIONS];
        for (int letter = 0; letter < FUNCTIONS; letter++) {
            functions[letter] = new Function();
        }
        spareFunction = new Function();
        document = new Hedge(DOCUMENT);
        spareDocument = new Hedge(DOCUMENT);
        worth = new Hedge(VALUE);
        spareWorth = new Hedge(VALUE);
        reader = new Reader();
        rests = new Rests();
        table = new Kinds(rests);
        texts = new Texts(table);
        checker = new Checker(rests, table, functions);
        runner = new Runner(rests, functions);
    }

    public boolean type(char c) {
        if (c < 32 || c > 126 || padLength >= PAD) {
            return false;
        }
        pad[padLength] = c;
        padLength++;
        return true;
    }

    public void clear() {
        padLength = 0;
    }

    public int enter() {
        reader.open(pad, padLength);
        if (padLength > 0 && isName(pad[0])) {
            return reader.readDefinition(spareDefinition) ? keepDefinition(pad[0] - 'A') : 1 + reader.at;
        }
        if (padLength > 0 && isFunction(pad[0])) {
            return reader.readFunction(spareFunction) ? keepFunction(pad[0] - 'f') : 1 + reader.at;
        }
        return 1;
    }

    public int read() {
        reader.open(pad, padLength);
        if (!reader.readHedge(spareDocument)) {
            return 1 + reader.at;
        }
        changeDocument();
        return 0;
    }

    public int size() {
        return document.count;
    }

    public int text(int k) {
        return document.characterAt(k);
    }

    public boolean valid(int name) {
        return isNameNumber(name) && rests.belongs(rests.ofHedge(document), name);
    }

    public int kinds() {
        return table.fitsRoom() ? table.count : ROOM;
    }

    public long least(int name) {
        if (!isNameNumber(name)) {
            return MISSING;
        }
        if (!table.fitsRoom()) {
            return ROOM;
        }
        return table.leastOf(table.members[name]);
    }

    public long differ(int one, int other) {
        if (!isNameNumber(one) || !isNameNumber(other)) {
            return MISSING;
        }
        if (!table.fitsRoom()) {
            return ROOM;
        }
        return table.leastOf(table.members[one] & ~table.members[other]);
    }

    public long show(int one, int other) {
        long least = differ(one, other);
        if (least >= 0 && least <= DOCUMENT) {
            int length = texts.pickFirst(table.members[one] & ~table.members[other], least);
            reader.open(texts.trial, length);
            if (reader.readHedge(spareDocument)) {
                changeDocument();
            }
        }
        return least;
    }

    public long uncovered(int function) {
        if (!isDefined(function)) {
            return MISSING;
        }
        return table.fitsRoom() ? checker.leastUncovered(functions[function]) : ROOM;
    }

    public int useless(int function) {
        if (!isDefined(function)) {
            return MISSING;
        }
        return table.fitsRoom() ? checker.countUseless(functions[function]) : ROOM;
    }

    public int wrong(int function) {
        if (!isDefined(function)) {
            return MISSING;
        }
        return table.fitsRoom() ? checker.firstWrong(functions[function]) : ROOM;
    }

    public boolean safe(int function) {
        return isDefined(function) && table.fitsRoom() && checker.allSafe(function);
    }

    public int run(int function) {
        if (!isDefined(function)) {
            return MISSING;
        }
        int answer = runner.runOn(document, function, spareWorth);
        if (answer >= 0) {
            Hedge old = worth;
            worth = spareWorth;
            spareWorth = old;
        }
        return answer;
    }

    public int valueSize() {
        return worth.count;
    }

    public int value(int k) {
        return worth.characterAt(k);
    }

    public boolean valueValid(int name) {
        return isNameNumber(name) && rests.belongs(rests.ofHedge(worth), name);
    }

    public boolean take() {
        if (worth.count > DOCUMENT) {
            return false;
        }
        document.copyFrom(worth);
        return true;
    }

    private int keepDefinition(int name) {
        int items = spareDefinition.items;
        for (int other = 0; other < NAMES; other++) {
            if (other != name && definitions[other].given) {
                items += definitions[other].items;
            }
        }
        if (items > ITEMS) {
            return FULL;
        }
        Definition old = definitions[name];
        definitions[name] = spareDefinition;
        spareDefinition = old;
        rests.rebuild(definitions);
        table.known = false;
        texts.known = false;
        return 0;
    }

    private int keepFunction(int letter) {
        Function old = functions[letter];
        functions[letter] = spareFunction;
        spareFunction = old;
        return 0;
    }

    private void changeDocument() {
        Hedge old = document;
        document = spareDocument;
        spareDocument = old;
    }

    private boolean isDefined(int function) {
        return function >= 0 && function < FUNCTIONS && functions[function].given;
    }

    private static boolean isNameNumber(int name) {
        return name >= 0 && name < NAMES;
    }

    private static boolean isName(int code) {
        return code >= 'A' && code <= 'F';
    }

    private static boolean isFunction(int code) {
        return code >= 'f' && code <= 'h';
    }

    private static boolean isLabel(int code) {
        return code >= 'a' && code <= 'd';
    }

    private static boolean isDigit(int code) {
        return code >= '0' && code <= '9';
    }

    /**
     * The nodes of a hedge in the order of its text, each with its depth; a hedge inside it is told by its first
     * node, the empty one by NONE.
     */
    private static final class Hedge {
        final char[] codes;
        final int[] depths;
        int count;

        Hedge(int most) {
            codes = new char[most];
            depths = new int[most];
            count = 0;
        }

        boolean add(int code, int depth) {
            if (count >= codes.length) {
                return false;
            }
            codes[count] = (char) code;
            depths[count] = depth;
            count++;
            return true;
        }

        void copyFrom(Hedge other) {
            count = 0;
            for (int node = 0; node < other.count; node++) {
                add(other.codes[node], other.depths[node]);
            }
        }

        int firstOf(int node) {
            if (node < 0 || node >= count) {
                return EMPTY;
            }
            return isLabel(codes[node]) ? codes[node] - 'a' : NUMBER;
        }

        int contentOf(int node) {
            int next = node + 1;
            return node >= 0 && next < count && depths[next] > depths[node] ? next : NONE;
        }

        int behind(int node) {
            if (node < 0) {
                return NONE;
            }
            for (int next = node + 1; next < count; next++) {
                if (depths[next] <= depths[node]) {
                    return depths[next] == depths[node] ? next : NONE;
                }
            }
            return NONE;
        }

        int characterAt(int k) {
            int left = k;
            for (int node = 0; node < count && left >= 0; node++) {
                boolean element = isLabel(codes[node]);
                if (left == 0) {
                    return codes[node];
                }
                if (element && left == 1) {
                    return '[';
                }
                left -= element ? 2 : 1;
                int closed = depths[node] + (element ? 1 : 0) - (node + 1 < count ? depths[node + 1] : 0);
                if (left < closed) {
                    return ']';
                }
                left -= closed;
            }
            return NONE;
        }
    }

    /** The definition of one name. */
    private static final class Definition {
        boolean given;
        int alternatives;
        int items;
        /** Which items are an alternative's: those below its limit that no earlier one has. */
        final int[] limits = new int[ALTERNATIVES];
        final int[] tails = new int[ALTERNATIVES];
        final int[] firsts = new int[ITEMS];
        final int[] contents = new int[ITEMS];
        final char[] marks = new char[ITEMS];

        void addItem(int first, int content) {
            if (items < ITEMS) {
                firsts[items] = first;
                contents[items] = content;
                marks[items] = ' ';
                items++;
            }
        }

        void addAlternative(int tail) {
            if (alternatives < ALTERNATIVES) {
                limits[alternatives] = items;
                tails[alternatives] = tail;
                alternatives++;
            }
        }
    }

    /**
     * A function. Its results are lists of tokens: a part's or end's own character, ']' behind an element's result,
     * or CALL + 2 * function, and 1 more when it is applied to y.
     */
    private static final class Function {
        static final int CALL = 256;

        boolean given;
        int input;
        int output;
        int clauses;
        final int[] firsts = new int[CLAUSES];
        final int[] contents = new int[CLAUSES];
        final int[] tails = new int[CLAUSES];
        /** A clause's tokens begin at its start and end before the next one's. */
        final int[] starts = new int[CLAUSES + 1];
        final int[] tokens = new int[PAD];

        /** Makes room for a clause whose tokens follow. */
        void addClause(int first, int content, int tail) {
            if (clauses < CLAUSES) {
                firsts[clauses] = first;
                contents[clauses] = content;
                tails[clauses] = tail;
                starts[clauses + 1] = starts[clauses];
                clauses++;
            }
        }

        void addToken(int token) {
            int end = starts[clauses];
            if (end < PAD) {
                tokens[end] = token;
                starts[clauses] = end + 1;
            }
        }

        boolean has(int clause, int token) {
            for (int k = starts[clause]; k < starts[clause + 1]; k++) {
                if (tokens[k] == token) {
                    return true;
                }
            }
            return false;
        }

        static int calledBy(int token) {
            int function = (token - CALL) / 2;
            return function >= 0 && function < FUNCTIONS ? function : 0;
        }

        static boolean isAboutX(int token) {
            return token == 'x' || token >= CALL && token % 2 == 0;
        }
    }

    /** Reads a row of characters; where it fails, its place is the stop. */
    private static final class Reader {
        char[] row = new char[0];
        int length;
        int at;
        int parts;

        void open(char[] newRow, int newLength) {
            row = newRow;
            length = newLength;
        }

        boolean readHedge(Hedge hedge) {
            hedge.count = 0;
            int depth = 0;
            for (at = 0; at < length; at++) {
                int code = row[at];
                if (code == ']' && depth > 0) {
                    depth--;
                } else if (isDigit(code) && hedge.count < DOCUMENT) {
                    hedge.add(code, depth);
                } else if (isLabel(code) && hedge.count < DOCUMENT) {
                    hedge.add(code, depth);
                    depth++;
                    at++;
                    if (look() != '[') {
                        return false;
                    }
                } else {
                    return false;
                }
            }
            return depth == 0;
        }

        boolean readDefinition(Definition definition) {
            definition.given = true;
            definition.alternatives = 0;
            definition.items = 0;
            at = 1;
            char before = '=';
            for (int k = 0; k < ALTERNATIVES; k++) {
                if (!pass(before) || !readItems(definition)) {
                    return false;
                }
                definition.addAlternative(isName(look()) ? readName() : NONE);
                if (at >= length) {
                    return true;
                }
                before = '|';
            }
            return false;
        }

        private boolean readItems(Definition definition) {
            for (int k = 0; k < ITEMS && (look() == '#' || isLabel(look())); k++) {
                if (definition.items >= ITEMS) {
                    return false;
                }
                if (pass('#')) {
                    definition.addItem(NUMBER, NONE);
                } else {
                    int label = readLabel();
                    int content = readNameInBrackets();
                    if (content == NONE) {
                        return false;
                    }
                    definition.addItem(label, content);
                }
                if (look() == '*' || look() == '?') {
                    definition.marks[definition.items - 1] = row[at];
                    at++;
                }
            }
            return true;
        }

        boolean readFunction(Function function) {
            function.given = true;
            function.clauses = 0;
            function.starts[0] = 0;
            at = 1;
            if (!pass(':') || !isName(look())) {
                return false;
            }
            function.input = readName();
            if (!pass('>') || !isName(look())) {
                return false;
            }
            function.output = readName();
            for (int k = 0; k < CLAUSES; k++) {
                if (!pass('/') || !readPattern(function) || !pass('-') || !readResult(function, function.firsts[k])) {
                    return false;
                }
                if (at >= length) {
                    return true;
                }
            }
            return false;
        }

        private boolean readPattern(Function function) {
            if (pass('.')) {
                function.addClause(EMPTY, NONE, NONE);
                return true;
            }
            int first = NUMBER;
            int content = NONE;
            if (isLabel(look())) {
                first = readLabel();
                content = readNameInBrackets();
                if (content == NONE) {
                    return false;
                }
            } else if (!pass('#')) {
                return false;
            }
            if (!isName(look())) {
                return false;
            }
            function.addClause(first, content, readName());
            return true;
        }

        /** Stops before what can stand in no result; whether it can stand behind one the caller knows. */
        private boolean readResult(Function function, int first) {
            int depth = 0;
            boolean ended = false;
            parts = 0;
            for (int k = 0; k < PAD && at < length; k++) {
                int code = row[at];
                if (code == ']' && depth > 0) {
                    depth--;
                    ended = false;
                    function.addToken(code);
                    at++;
                } else if (ended || code == '/') {
                    return depth == 0;
                } else if (mayBePart(code, first)) {
                    depth += isLabel(code) ? 1 : 0;
                    if (!readPart(function)) {
                        return false;
                    }
                } else {
                    ended = true;
                    if (!readEnd(function, first)) {
                        return false;
                    }
                }
            }
            return depth == 0 && at >= length;
        }

        private boolean mayBePart(int code, int first) {
            return isDigit(code) || isLabel(code) || code == '#' && first == NUMBER;
        }

        private boolean readPart(Function function) {
            if (parts >= PARTS) {
                return false;
            }
            parts++;
            int code = look();
            function.addToken(code);
            at++;
            return !isLabel(code) || pass('[');
        }

        private boolean readEnd(Function function, int first) {
            int code = look();
            if (mayBeHedge(code, first)) {
                function.addToken(code);
                at++;
                return true;
            }
            if (!isFunction(code) || first == EMPTY) {
                return false;
            }
            at++;
            if (!pass('(') || !mayBeHedge(look(), first)) {
                return false;
            }
            function.addToken(Function.CALL + 2 * (code - 'f') + (look() == 'y' ? 1 : 0));
            at++;
            return pass(')');
        }

        private boolean mayBeHedge(int code, int first) {
            return code == 'x' && first < LABELS || code == 'y' && first != EMPTY;
        }

        private int look() {
            return at < length ? row[at] : NONE;
        }

        private boolean pass(char due) {
            if (look() != due) {
                return false;
            }
            at++;
            return true;
        }

        private int readLabel() {
            int label = look() - 'a';
            at++;
            return label;
        }

        private int readName() {
            int name = look() - 'A';
            at++;
            return name;
        }

        private int readNameInBrackets() {
            if (!pass('[') || !isName(look())) {
                return NONE;
            }
            int name = readName();
            return pass(']') ? name : NONE;
        }
    }

    /**
     * All rests of all alternatives, a bit each (16 items and 48 alternatives make 64 at most); what a hedge belongs
     * to is a mask of them.
     */
    private static final class Rests {
        int items;
        final int[] firsts = new int[ITEMS];
        final int[] contents = new int[ITEMS];
        /** The rest that begins with an item, when its mark is *. */
        final long[] repeats = new long[ITEMS];
        final long[] behinds = new long[ITEMS];
        /** The rests from which the item is reached by leaving out marked ones and going into tails. */
        final long[] origins = new long[ITEMS];
        final long[] wholes = new long[NAMES];
        /** The rests that are this tail alone. */
        final long[] tails = new long[NAMES];
        /** The rests that begin with a marked item; the rest behind it has the next higher bit. */
        long skips;
        long ends;
        long ofEmpty;
        /** For each node of the hedge last looked at what the hedge that begins there belongs to. */
        final long[] ofNodes = new long[VALUE];

        void rebuild(Definition[] definitions) {
            items = 0;
            skips = 0;
            ends = 0;
            for (int name = 0; name < NAMES; name++) {
                wholes[name] = 0;
                tails[name] = 0;
            }
            int rest = 0;
            for (int name = 0; name < NAMES; name++) {
                if (definitions[name].given) {
                    rest = layOut(definitions[name], name, rest);
                }
            }
            ofEmpty = spread(ends);
            for (int item = 0; item < items; item++) {
                origins[item] = spread(behinds[item] >>> 1);
            }
        }

        private int layOut(Definition definition, int name, int firstRest) {
            int rest = firstRest;
            int item = 0;
            for (int k = 0; k < definition.alternatives; k++) {
                wholes[name] |= 1L << rest;
                for (; item < definition.limits[k]; item++) {
                    addItem(definition, item, rest);
                    rest++;
                }
                int tail = definition.tails[k];
                if (tail == NONE) {
                    ends |= 1L << rest;
                } else {
                    tails[tail] |= 1L << rest;
                }
                rest++;
            }
            return rest;
        }

        private void addItem(Definition definition, int item, int rest) {
            if (items >= ITEMS) {
                return;
            }
            long start = 1L << rest;
            firsts[items] = definition.firsts[item];
            contents[items] = definition.contents[item];
            repeats[items] = definition.marks[item] == '*' ? start : 0;
            behinds[items] = start << 1;
            skips |= definition.marks[item] == ' ' ? 0 : start;
            items++;
        }

        /** The given rests and those from which one of them is reached without a node. */
        private long spread(long given) {
            long found = given;
            for (int round = 0; round < 64; round++) {
                long before = found;
                found |= found >>> 1 & skips;
                for (int name = 0; name < NAMES; name++) {
                    found |= (found & wholes[name]) != 0 ? tails[name] : 0;
                }
                if (found == before) {
                    break;
                }
            }
            return found;
        }

        boolean belongs(long mask, int name) {
            return (mask & wholes[name]) != 0;
        }

        /** The items that a node fits, a bit each. */
        int fitting(int first, long content) {
            int fits = 0;
            for (int item = 0; item < items; item++) {
                if (firsts[item] == first && (first == NUMBER || belongs(content, contents[item]))) {
                    fits |= 1 << item;
                }
            }
            return fits;
        }

        /** What a hedge belongs to by the items that its first node fits and by what follows that node. */
        long joined(int fits, long tail) {
            long found = 0;
            for (int item = 0; item < items; item++) {
                if ((fits >>> item & 1) != 0 && (tail & (behinds[item] | repeats[item])) != 0) {
                    found |= origins[item];
                }
            }
            return found;
        }

        long ofHedge(Hedge hedge) {
            for (int node = hedge.count - 1; node >= 0; node--) {
                int fits = fitting(hedge.firstOf(node), ofPart(hedge.contentOf(node)));
                ofNodes[node] = joined(fits, ofPart(hedge.behind(node)));
            }
            return hedge.count == 0 ? ofEmpty : ofNodes[0];
        }

        long ofPart(int node) {
            return node < 0 || node >= VALUE ? ofEmpty : ofNodes[node];
        }

        /**
         * The clause, counted from 0, that a function chooses for a hedge by its first node and what content and tail
         * belong to.
         */
        int choose(Function function, int first, long content, long tail) {
            for (int clause = 0; clause < function.clauses; clause++) {
                if (function.firsts[clause] == first
                        && (first >= LABELS || belongs(content, function.contents[clause]))
                        && (first == EMPTY || belongs(tail, function.tails[clause]))) {
                    return clause;
                }
            }
            return NONE;
        }
    }

    /**
     * The kinds of all hedges, the empty hedge's first. Nodes that fit the same items are one letter; letter 0 is
     * the numbers'.
     */
    private static final class Kinds {
        static final int LETTERS = 1 + LABELS * KINDS;
        static final long FAR = 1L << 60;

        final Rests rests;
        boolean known;
        boolean tooMany;
        int count;
        int letters;
        final long[] masks = new long[KINDS];
        final long[] sizes = new long[KINDS];
        final int[] fits = new int[LETTERS];
        final long[] letterSizes = new long[LETTERS];
        final int[] labelLetters = new int[LABELS * KINDS];
        final int[] follows = new int[LETTERS * KINDS];
        /** All false between calls. */
        final boolean[] marked = new boolean[LETTERS];
        /** The kinds of what belongs to a name, a bit each. */
        final long[] members = new long[NAMES];

        Kinds(Rests theRests) {
            rests = theRests;
        }

        /** Finds the kinds if a definition is new; whether they are few enough. */
        boolean fitsRoom() {
            if (!known) {
                findKinds();
                if (!tooMany) {
                    findMembers();
                    findSizes();
                }
                known = true;
            }
            return !tooMany;
        }

        private void findKinds() {
            tooMany = false;
            count = 1;
            masks[0] = rests.ofEmpty;
            letters = 1;
            fits[0] = rests.fitting(NUMBER, 0);
            for (int kind = 0; kind < count && kind < KINDS && !tooMany; kind++) {
                int old = letters;
                findLetters(kind);
                for (int letter = 0; letter < letters; letter++) {
                    // An old letter has met the earlier kinds already.
                    for (int tail = letter < old ? kind : 0; tail <= kind && !tooMany; tail++) {
                        follows[letter * KINDS + tail] = kindOf(rests.joined(fits[letter], masks[tail]));
                    }
                }
            }
        }

        private void findLetters(int content) {
            for (int label = 0; label < LABELS; label++) {
                labelLetters[label * KINDS + content] = letterFor(rests.fitting(label, masks[content]));
            }
        }

        private int letterFor(int fitting) {
            for (int letter = 0; letter < letters; letter++) {
                if (fits[letter] == fitting) {
                    return letter;
                }
            }
            if (letters >= LETTERS) {
                return 0;
            }
            fits[letters] = fitting;
            letters++;
            return letters - 1;
        }

        /** The kind of hedges that are not empty and belong to just this. */
        private int kindOf(long mask) {
            for (int kind = 1; kind < count; kind++) {
                if (masks[kind] == mask) {
                    return kind;
                }
            }
            if (count >= KINDS) {
                tooMany = true;
                return 0;
            }
            masks[count] = mask;
            count++;
            return count - 1;
        }

        private void findMembers() {
            for (int name = 0; name < NAMES; name++) {
                members[name] = 0;
                for (int kind = 0; kind < count; kind++) {
                    members[name] |= rests.belongs(masks[kind], name) ? 1L << kind : 0;
                }
            }
        }

        private void findSizes() {
            sizes[0] = 0;
            for (int kind = 1; kind < count; kind++) {
                sizes[kind] = FAR;
            }
            boolean better = true;
            // A smallest hedge has no kind twice on one way down, so as many rounds as kinds are enough.
            for (int round = 0; round <= KINDS && better; round++) {
                findLetterSizes();
                better = findBetterSizes();
            }
        }

        private void findLetterSizes() {
            letterSizes[0] = 1;
            for (int letter = 1; letter < letters; letter++) {
                letterSizes[letter] = FAR;
            }
            for (int label = 0; label < LABELS; label++) {
                for (int content = 0; content < count; content++) {
                    int letter = labelLetters[label * KINDS + content];
                    letterSizes[letter] = Math.min(letterSizes[letter], 1 + sizes[content]);
                }
            }
        }

        private boolean findBetterSizes() {
            boolean better = false;
            for (int letter = 0; letter < letters; letter++) {
                for (int tail = 0; tail < count; tail++) {
                    int whole = follows[letter * KINDS + tail];
                    long size = letterSizes[letter] + sizes[tail];
                    if (size < sizes[whole]) {
                        sizes[whole] = size;
                        better = true;
                    }
                }
            }
            return better;
        }

        /**
         * The kind of a hedge by its first node's label (or NUMBER), and the kinds of that node's content and of what
         * follows it.
         */
        int follow(int first, int content, int tail) {
            return follows[letterOf(first, content) * KINDS + tail];
        }

        private int letterOf(int first, int content) {
            return first == NUMBER ? 0 : labelLetters[first * KINDS + content];
        }

        /** The kinds of hedges whose first node's content and whose tail may be of several kinds. */
        long followAll(int first, long contents, long tails) {
            for (int content = 0; content < count; content++) {
                if ((contents >>> content & 1) != 0) {
                    marked[letterOf(first, content)] = true;
                }
            }
            long found = 0;
            for (int letter = 0; letter < letters; letter++) {
                for (int tail = 0; marked[letter] && tail < count; tail++) {
                    found |= (tails >>> tail & 1) != 0 ? 1L << follows[letter * KINDS + tail] : 0;
                }
                marked[letter] = false;
            }
            return found;
        }

        boolean isMember(int kind, int name) {
            return (members[name] >>> kind & 1) != 0;
        }

        /** The size of a smallest hedge of one of these kinds. */
        long leastOf(long several) {
            long least = NONE;
            for (int kind = 0; kind < count; kind++) {
                if ((several >>> kind & 1) != 0 && (least == NONE || sizes[kind] < least)) {
                    least = sizes[kind];
                }
            }
            return least;
        }
    }

    /**
     * For each kind that has a hedge small enough the first text of its smallest hedges. Texts of hedges of one size
     * never begin one another, so first parts make a first whole.
     */
    private static final class Texts {
        static final int LONGEST = 3 * DOCUMENT;

        final Kinds table;
        boolean known;
        final char[] characters = new char[KINDS * LONGEST];
        final int[] lengths = new int[KINDS];
        final char[] trial = new char[LONGEST];
        int trialLength;

        Texts(Kinds theTable) {
            table = theTable;
        }

        /** Puts the first text of the smallest hedges of these kinds in the trial row; its length. */
        int pickFirst(long several, long size) {
            if (!known) {
                findTexts();
                known = true;
            }
            int best = NONE;
            for (int kind = 0; kind < table.count; kind++) {
                if ((several >>> kind & 1) != 0 && table.sizes[kind] == size) {
                    putText(kind);
                    best = best == NONE || comesBefore(best) ? kind : best;
                }
            }
            trialLength = 0;
            if (best != NONE) {
                putText(best);
            }
            return trialLength;
        }

        private void findTexts() {
            lengths[0] = 0;
            for (int kind = 1; kind < table.count; kind++) {
                lengths[kind] = NONE;
            }
            for (int size = 1; size <= DOCUMENT; size++) {
                for (int tail = 0; tail < table.count; tail++) {
                    long left = size - 1 - table.sizes[tail];
                    if (left == 0) {
                        offer(NUMBER, 0, tail, size);
                    }
                    for (int content = 0; content < table.count && left >= 0; content++) {
                        for (int label = 0; label < LABELS && table.sizes[content] == left; label++) {
                            offer(label, content, tail, size);
                        }
                    }
                }
            }
        }

        private void offer(int first, int content, int tail, int size) {
            int whole = table.follow(first, content, tail);
            if (table.sizes[whole] != size) {
                return;
            }
            trialLength = 0;
            if (first == NUMBER) {
                put('0');
            } else {
                put((char) ('a' + first));
                put('[');
                append(content);
                put(']');
            }
            append(tail);
            if (lengths[whole] == NONE || comesBefore(whole)) {
                System.arraycopy(trial, 0, characters, whole * LONGEST, trialLength);
                lengths[whole] = trialLength;
            }
        }

        private void put(char c) {
            if (trialLength < LONGEST) {
                trial[trialLength] = c;
                trialLength++;
            }
        }

        private void putText(int kind) {
            trialLength = 0;
            append(kind);
        }

        private void append(int kind) {
            for (int k = 0; k < lengths[kind]; k++) {
                put(characters[kind * LONGEST + k]);
            }
        }

        private boolean comesBefore(int kind) {
            for (int k = 0; k < trialLength && k < lengths[kind]; k++) {
                char other = characters[kind * LONGEST + k];
                if (trial[k] != other) {
                    return trial[k] < other;
                }
            }
            return false;
        }
    }

    /**
     * The check of functions. It goes through the cuts: all ways in which a hedge begins, with the kinds of the
     * first node's content and of the tail.
     */
    private static final class Checker {
        final Rests rests;
        final Kinds table;
        final Function[] functions;
        int first;
        int content;
        int tail;
        /** For each bracket that is open the kinds of what stands behind it. */
        final long[] waiting = new long[PARTS];
        /** For each clause and content the tails with which its result was looked at. */
        final long[] seen = new long[CLAUSES * KINDS];

        Checker(Rests theRests, Kinds theTable, Function[] theFunctions) {
            rests = theRests;
            table = theTable;
            functions = theFunctions;
        }

        private int countCuts() {
            return 1 + table.count + LABELS * table.count * table.count;
        }

        private void goTo(int cut) {
            int kinds = Math.max(1, table.count);
            int pair = cut - 1 - kinds;
            first = cut == 0 ? EMPTY : pair < 0 ? NUMBER : pair / kinds / kinds;
            content = pair < 0 ? 0 : pair / kinds % kinds;
            tail = cut == 0 ? 0 : (cut - 1) % kinds;
        }

        private boolean isCutOf(int name) {
            return table.isMember(first == EMPTY ? 0 : table.follow(first, content, tail), name);
        }

        private long cutSize() {
            return first == EMPTY ? 0 : 1 + table.sizes[content] + table.sizes[tail];
        }

        private int chosenBy(Function function) {
            return rests.choose(function, first, table.masks[content], table.masks[tail]);
        }

        long leastUncovered(Function function) {
            long least = NONE;
            for (int cut = 0; cut < countCuts(); cut++) {
                goTo(cut);
                if (isCutOf(function.input) && chosenBy(function) == NONE) {
                    least = least == NONE ? cutSize() : Math.min(least, cutSize());
                }
            }
            return least;
        }

        int countUseless(Function function) {
            int useful = 0;
            for (int cut = 0; cut < countCuts(); cut++) {
                goTo(cut);
                int clause = isCutOf(function.input) ? chosenBy(function) : NONE;
                useful |= clause == NONE ? 0 : 1 << clause;
            }
            return function.clauses - Integer.bitCount(useful);
        }

        /** Counted from 1; 0 when no clause is wrong. */
        int firstWrong(Function function) {
            for (int k = 0; k < CLAUSES * KINDS; k++) {
                seen[k] = 0;
            }
            int found = function.clauses;
            for (int cut = 0; cut < countCuts(); cut++) {
                goTo(cut);
                int clause = isCutOf(function.input) ? chosenBy(function) : NONE;
                if (clause != NONE && clause < found
                        && (hasWrongCall(function, clause) || mayMissOutput(function, clause))) {
                    found = clause;
                }
            }
            return found < function.clauses ? found + 1 : 0;
        }

        private boolean hasWrongCall(Function function, int clause) {
            for (int k = function.starts[clause]; k < function.starts[clause + 1]; k++) {
                int token = function.tokens[k];
                if (token >= Function.CALL) {
                    Function called = functions[Function.calledBy(token)];
                    int kind = Function.isAboutX(token) ? content : tail;
                    if (!called.given || !table.isMember(kind, called.input)) {
                        return true;
                    }
                }
            }
            return false;
        }

        private boolean mayMissOutput(Function function, int clause) {
            int row = clause * KINDS + (function.has(clause, 'x') ? content : 0);
            long bit = function.has(clause, 'y') ? 1L << tail : 1L;
            if ((seen[row] & bit) != 0) {
                return false;
            }
            seen[row] |= bit;
            return (resultKinds(function, clause) & ~table.members[function.output]) != 0;
        }

        /** Goes from right to left, because a hedge's kind is known when its tail's kind is. */
        private long resultKinds(Function function, int clause) {
            long kinds = 1L;
            int open = 0;
            for (int k = function.starts[clause + 1] - 1; k >= function.starts[clause]; k--) {
                int token = function.tokens[k];
                if (token == ']' && open < PARTS) {
                    waiting[open] = kinds;
                    open++;
                    kinds = 1L;
                } else if (isLabel(token) && open > 0) {
                    open--;
                    kinds = table.followAll(token - 'a', kinds, waiting[open]);
                } else if (token >= Function.CALL) {
                    kinds = table.members[functions[Function.calledBy(token)].output];
                } else if (token == 'x' || token == 'y') {
                    kinds = 1L << (token == 'x' ? content : tail);
                } else {
                    kinds = table.followAll(NUMBER, 1L, kinds);
                }
            }
            return kinds;
        }

        boolean allSafe(int function) {
            int led = 1 << function;
            for (int round = 0; round < FUNCTIONS; round++) {
                for (int letter = 0; letter < FUNCTIONS; letter++) {
                    led |= (led >>> letter & 1) != 0 ? calledIn(functions[letter]) : 0;
                }
            }
            for (int letter = 0; letter < FUNCTIONS; letter++) {
                if ((led >>> letter & 1) != 0 && !isSound(functions[letter])) {
                    return false;
                }
            }
            return true;
        }

        private int calledIn(Function function) {
            int called = 0;
            for (int k = 0; function.given && k < function.starts[function.clauses]; k++) {
                int token = function.tokens[k];
                called |= token >= Function.CALL ? 1 << Function.calledBy(token) : 0;
            }
            return called;
        }

        private boolean isSound(Function function) {
            return function.given && leastUncovered(function) == NONE && firstWrong(function) == 0;
        }
    }

    /** The running of functions on a document. */
    private static final class Runner {
        /** Each call is applied to a smaller hedge, so no run comes near to this. */
        static final int DEEPEST = 40;

        final Rests rests;
        final Function[] functions;
        Hedge source = new Hedge(0);
        Hedge written = new Hedge(0);
        int applied;
        int failure;

        Runner(Rests theRests, Function[] theFunctions) {
            rests = theRests;
            functions = theFunctions;
        }

        int runOn(Hedge document, int function, Hedge target) {
            source = document;
            written = target;
            written.count = 0;
            applied = 0;
            failure = STUCK;
            rests.ofHedge(document);
            return apply(function, document.count == 0 ? NONE : 0, 0, 0) ? applied : failure;
        }

        private boolean apply(int letter, int node, int depth, int level) {
            applied++;
            Function function = functions[letter];
            if (!function.given || level >= DEEPEST) {
                return false;
            }
            long content = rests.ofPart(source.contentOf(node));
            long tail = rests.ofPart(source.behind(node));
            int clause = rests.choose(function, source.firstOf(node), content, tail);
            return clause != NONE && writeResult(function, clause, node, depth, level);
        }

        private boolean writeResult(Function function, int clause, int node, int depth, int level) {
            int deep = depth;
            for (int k = function.starts[clause]; k < function.starts[clause + 1]; k++) {
                int token = function.tokens[k];
                boolean done = true;
                if (token == ']') {
                    deep--;
                } else if (token >= Function.CALL) {
                    done = apply(Function.calledBy(token), partFor(token, node), deep, level + 1);
                } else if (token == 'x' || token == 'y') {
                    done = writeHedge(partFor(token, node), deep);
                } else {
                    done = writeNode(token == '#' && node >= 0 ? source.codes[node] : token, deep);
                    deep += isLabel(token) ? 1 : 0;
                }
                if (!done) {
                    return false;
                }
            }
            return true;
        }

        private int partFor(int token, int node) {
            return Function.isAboutX(token) ? source.contentOf(node) : source.behind(node);
        }

        private boolean writeHedge(int start, int depth) {
            if (start < 0) {
                return true;
            }
            int top = source.depths[start];
            for (int node = start; node < source.count && source.depths[node] >= top; node++) {
                if (!writeNode(source.codes[node], source.depths[node] - top + depth)) {
                    return false;
                }
            }
            return true;
        }

        private boolean writeNode(int code, int depth) {
            if (written.add(code, depth)) {
                return true;
            }
            failure = FULL;
            return false;
        }
    }
}
