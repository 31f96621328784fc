/** The sentences of the promises that name a boundary, and those of the document's beginning. */
final class PromiseTest {
    private static final int NONE = HedgeCheck.NONE;
    private static final int MISSING = HedgeCheck.MISSING;
    private static final int ROOM = HedgeCheck.ROOM;
    private static final int STUCK = HedgeCheck.STUCK;
    private static final int FULL = HedgeCheck.FULL;
    private static final int[] NO_NAMES = {-1, 6, 7, 64, 256, -256, 65536, Integer.MIN_VALUE, Integer.MAX_VALUE};
    private static final int[] NO_FUNCTIONS = {-1, 3, 4, 64, 256, -256, 65536, Integer.MIN_VALUE, Integer.MAX_VALUE};
    private static final Due due = new Due();

    public static void main(String[] args) {
        calls();
        atFirst();
        newObject();
        type();
        clear();
        enterReplaces();
        enterAnswers();
        readEmpty();
        readAnswers();
        size();
        text();
        valid();
        kinds();
        least();
        differ();
        show();
        uncovered();
        useless();
        wrong();
        safe();
        run();
        runKeepsOld();
        valueSize();
        value();
        valueValid();
        take();
        Due.end();
    }

    private static void calls() {
        due.sentence("An object is used for at most 512 calls after it has been made;");
        HedgeCheck h = new HedgeCheck();
        for (int call = 1; call <= 500; call++) {
            h.clear();
        }
        due.is("call 501", h.type('A'), true);
        due.is("call 502", h.type('='), true);
        due.is("call 503", h.type('#'), true);
        due.is("call 504", h.enter(), 0);
        due.is("call 505", h.least(0), 1);
        due.is("call 506", h.show(0, 1), 1);
        due.is("call 507", h.valid(0), true);
        due.is("call 508", h.text(0), '0');
        due.is("call 509", h.read(), 1);
        due.is("call 510", h.kinds(), 3);
        due.is("call 511", h.take(), true);
        due.is("call 512", h.size(), 0);
    }

    /** Everything that an object can be asked when nothing has been done with it. */
    private static void askNew() {
        due.is("size()", due.h.size(), 0);
        due.is("text(0)", due.h.text(0), NONE);
        due.is("valueSize()", due.h.valueSize(), 0);
        due.is("value(0)", due.h.value(0), NONE);
        due.is("kinds()", due.h.kinds(), 2);
        for (int name = 0; name < 6; name++) {
            due.is("valid(" + name + ")", due.h.valid(name), false);
            due.is("valueValid(" + name + ")", due.h.valueValid(name), false);
            due.is("least(" + name + ")", due.h.least(name), NONE);
            due.is("differ(" + name + ", 0)", due.h.differ(name, 0), NONE);
            due.is("show(" + name + ", 0)", due.h.show(name, 0), NONE);
        }
        for (int function = 0; function < 3; function++) {
            due.is("uncovered(" + function + ")", due.h.uncovered(function), MISSING);
            due.is("useless(" + function + ")", due.h.useless(function), MISSING);
            due.is("wrong(" + function + ")", due.h.wrong(function), MISSING);
            due.is("safe(" + function + ")", due.h.safe(function), false);
            due.is("run(" + function + ")", due.h.run(function), MISSING);
        }
    }

    private static void atFirst() {
        due.sentence("At first nothing is defined; pad, document and value are empty.");
        askNew();
        due.is("enter() of the empty pad", due.h.enter(), 1);
        due.is("read() of the empty pad", due.h.read(), 0);
        due.is("take() of the empty value", due.h.take(), true);
        askNew();
        for (int k = 1; k <= 80; k++) {
            due.is("type of character " + k, due.h.type('0'), true);
        }
        due.is("type of character 81", due.h.type('0'), false);
    }

    private static void newObject() {
        due.sentence("Nothing defined, all empty.");
        HedgeCheck other = due.h;
        due.enter("A=#|", 0);
        due.enter("f:A>A/.-0", 0);
        due.is("run(0)", due.h.run(0), 1);
        due.read("1", 0);
        due.again();
        askNew();
        due.is("enter()", due.h.enter(), 1);
        due.is("the other object's size()", other.size(), 1);
        due.is("the other object's valueSize()", other.valueSize(), 1);
        due.is("the other object's valid(0)", other.valid(0), true);
    }

    private static void type() {
        due.sentence("Appends c to the pad: true; refused with false when its code is not 32 .. 126 or 80 characters are there.");
        due.is("type('0')", due.h.type('0'), true);
        due.is("type of code 31", due.h.type((char) 31), false);
        due.is("type of code 127", due.h.type((char) 127), false);
        due.is("type of code 0", due.h.type((char) 0), false);
        due.is("type of code 65535", due.h.type((char) 65535), false);
        due.is("type of '0' and 256", due.h.type((char) ('0' + 256)), false);
        due.is("type('1')", due.h.type('1'), true);
        due.is("read()", due.h.read(), 0);
        due.is("document", due.document(), "01");
        due.is("type of code 32", due.h.type((char) 32), true);
        due.is("read() with it", due.h.read(), 3);
        due.pad("01");
        due.is("type of code 126", due.h.type((char) 126), true);
        due.is("read() with it", due.h.read(), 3);
        due.again();
        for (int k = 1; k <= 79; k++) {
            due.is("type of character " + k, due.h.type("f:A>A/.-".charAt(Math.min(k - 1, 5))), true);
        }
        due.is("type of code 127 as character 80", due.h.type((char) 127), false);
        due.is("type of character 80", due.h.type('.'), true);
        due.is("type of character 81", due.h.type('.'), false);
        due.is("type of character 81, code 31", due.h.type((char) 31), false);
    }

    private static void clear() {
        due.sentence("Makes the pad empty.");
        due.h.clear();
        due.is("enter() of a pad cleared when empty", due.h.enter(), 1);
        due.pad("A=#");
        due.h.clear();
        due.is("enter() of a cleared pad", due.h.enter(), 1);
        due.is("least(0)", due.h.least(0), NONE);
        due.is("read() of a cleared pad", due.h.read(), 0);
        due.pad("f:A>A/.-");
        due.h.clear();
        due.is("enter() of a cleared pad", due.h.enter(), 1);
        due.is("run(0)", due.h.run(0), MISSING);
        due.pad("0a[]");
        due.h.clear();
        due.is("read() of a cleared pad", due.h.read(), 0);
        due.is("size()", due.h.size(), 0);
        due.pad("#".repeat(80));
        due.is("type of character 81", due.h.type('#'), false);
        due.h.clear();
        for (int k = 1; k <= 80; k++) {
            due.is("type of character " + k, due.h.type('0'), true);
        }
        due.is("type of character 81", due.h.type('0'), false);
        due.is("nothing is left of the old characters", due.h.read(), 13);
        due.again().enter("A=#", 0);
        due.read("7", 0);
        due.enter("f:A>A/#A-/#B-y", 0);
        due.enter("B=", 0);
        due.is("run(0)", due.h.run(0), 1);
        due.h.clear();
        due.is("the document stays", due.document(), "7");
        due.is("the definitions stay", due.h.least(0), 1);
        due.is("the functions stay", due.h.useless(0), 1);
    }

    private static void enterReplaces() {
        due.sentence("Enters the pad as a definition or as a function, in place of the old one of that name or letter if there is one; "
                + "the pad stays.");
        for (int name = 0; name < 6; name++) {
            char letter = (char) ('A' + name);
            due.again().enter(letter + "=#", 0);
            due.is("least", due.h.least(name), 1);
            due.is("the pad stays", due.h.enter(), 0);
            due.is("type", due.h.type('#'), true);
            due.is("enter()", due.h.enter(), 0);
            due.is("least", due.h.least(name), 2);
            due.enter(letter + "=#*#?", 0);
            due.is("least", due.h.least(name), 0);
            due.enter(letter + "=##", 0);
            due.is("least", due.h.least(name), 2);
            due.enter(letter + "=|#", 0);
            due.is("least", due.h.least(name), 0);
            due.enter(letter + "=" + letter, 0);
            due.is("least", due.h.least(name), NONE);
            due.enter(letter + "=", 0);
            due.is("least", due.h.least(name), 0);
            due.is("least of another", due.h.least((name + 1) % 6), NONE);
        }
        for (int function = 0; function < 3; function++) {
            char letter = (char) ('f' + function);
            due.again().enter(letter + ":A>A/.-1", 0);
            due.run(function, "", 1, "1");
            due.enter(letter + ":A>A/.-2/.-3", 0);
            due.is("the pad stays", due.h.enter(), 0);
            due.is("type", due.h.type('4'), true);
            due.is("enter()", due.h.enter(), 0);
            due.is("useless", due.h.useless(function), 2);
            due.run(function, "", 1, "2");
            due.is("run of another", due.h.run((function + 1) % 3), MISSING);
        }
    }

    private static void enterAnswers() {
        due.sentence("Answers 0; refused with 1 + STOP when the pad is neither; else refused with FULL when the definitions (this one in "
                + "place of the old one) would then have more than 16 items together.");
        due.enter("A=########", 0);
        due.enter("B=#######", 0);
        due.enter("C=##", FULL);
        due.enter("C=#?#*", FULL);
        due.enter("C=#|a[A]", FULL);
        due.enter("C=##~", 5);
        due.enter("C=##|||||||", FULL);
        due.enter("C=##||||||||", 12);
        due.enter("C=#################", 19);
        due.enter("C=################", FULL);
        due.is("least(2)", due.h.least(2), NONE);
        due.enter("C=#", 0);
        due.enter("D=", 0);
        due.enter("D=|A|B|C", 0);
        due.enter("D=#", FULL);
        due.again().enter("A=########", 0);
        due.enter("B=########", 0);
        due.enter("A=#########", FULL);
        due.enter("A=a[A]?a[A]?a[A]?a[A]?a[A]?a[A]?a[A]?a[A]?", 0);
        due.enter("B=#########", FULL);
        due.enter("B=#######", 0);
        due.enter("A=#########", 0);
        due.enter("F=#", FULL);
        due.enter("f:A>A/#A-############y", 0);
        due.again().enter("A=################", 0);
        due.enter("A=################", 0);
        due.enter("F=d[F]", FULL);
        due.enter("A=###############", 0);
        due.enter("F=d[F]", 0);
        due.enter("F=d[F]d[F]", FULL);
    }

    private static void readEmpty() {
        due.sentence("The hedge in the pad (an empty pad is the empty hedge) becomes the document; the pad stays.");
        due.is("read() of the first pad", due.h.read(), 0);
        due.is("size()", due.h.size(), 0);
        due.read("a[0]", 0);
        due.is("document", due.document(), "a[0]");
        due.is("type", due.h.type('1'), true);
        due.is("read()", due.h.read(), 0);
        due.is("the pad stayed", due.document(), "a[0]1");
        due.read("", 0);
        due.is("document", due.document(), "");
        due.is("size()", due.h.size(), 0);
    }

    private static void readAnswers() {
        due.sentence("Answers 0; refused with 1 + STOP when the pad is none.");
        due.readAlone("0", 0);
        due.readAlone("#", 1);
        due.readAlone("A=", 1);
        due.readAlone("a", 2);
        due.readAlone("a[", 3);
        due.readAlone("a[]", 0);
        due.readAlone("012345678901", 0);
        due.readAlone("0123456789012", 13);
        due.is("the document stays", due.document(), "");
    }

    private static void size() {
        due.sentence("The size of the document.");
        due.is("size() at first", due.h.size(), 0);
        due.read("a[b[]0]", 0);
        due.is("size()", due.h.size(), 3);
        due.read("012345678901", 0);
        due.is("size()", due.h.size(), 12);
        due.read("0123456789012", 13);
        due.is("size()", due.h.size(), 12);
        due.enter("A=", 0);
        due.is("show(0, 1)", due.h.show(0, 1), 0);
        due.is("size()", due.h.size(), 0);
    }

    private static void text() {
        due.sentence("The code of character k (from 0) of the text of the document; NONE when there is none.");
        due.is("text(0)", due.h.text(0), NONE);
        due.read("a[0]9", 0);
        for (int k : new int[] {-1, -2, 5, 6, 79, 80, 1000, 65536, Integer.MIN_VALUE, Integer.MAX_VALUE}) {
            due.is("text(" + k + ")", due.h.text(k), NONE);
        }
        due.is("text(0)", due.h.text(0), 'a');
        due.is("text(1)", due.h.text(1), '[');
        due.is("text(2)", due.h.text(2), '0');
        due.is("text(3)", due.h.text(3), ']');
        due.is("text(4)", due.h.text(4), '9');
        due.read("d[d[d[d[d[d[d[d[d[d[d[d[]]]]]]]]]]]]", 0);
        due.is("text(34)", due.h.text(34), ']');
        due.is("text(35)", due.h.text(35), ']');
        due.is("text(36)", due.h.text(36), NONE);
    }

    private static void valid() {
        due.sentence("Whether the document belongs to a name; false when there is no such name.");
        for (char name = 'A'; name <= 'F'; name++) {
            due.enter(name + "=", 0);
        }
        for (int name = 0; name < 6; name++) {
            due.is("valid(" + name + ")", due.h.valid(name), true);
        }
        for (int name : NO_NAMES) {
            due.is("valid(" + name + ")", due.h.valid(name), false);
        }
        due.read("0", 0);
        due.is("valid(0)", due.h.valid(0), false);
        due.is("valid(5)", due.h.valid(5), false);
    }

    /** As many kinds as are allowed with C=##, one more with C=###. */
    private static void define(String third) {
        due.again().enter("A=####A|", 0);
        due.enter("B=#########B|", 0);
        due.enter("C=" + third, 0);
    }

    private static void kinds() {
        due.sentence("The number of kinds; ROOM when it is more than 40.");
        due.is("kinds()", due.h.kinds(), 2);
        define("#");
        due.is("kinds()", due.h.kinds(), 39);
        define("##");
        due.is("kinds()", due.h.kinds(), 40);
        define("###");
        due.is("kinds()", due.h.kinds(), ROOM);
        due.enter("C=##", 0);
        due.is("kinds()", due.h.kinds(), 40);
        due.enter("C=####", FULL);
        due.is("kinds()", due.h.kinds(), 40);
    }

    private static void least() {
        due.sentence("The size of a smallest hedge that belongs to a name. The first of these that holds: MISSING, there is no such name; "
                + "ROOM; NONE, no hedge belongs to it.");
        define("##");
        due.is("least(0)", due.h.least(0), 0);
        due.is("least(2)", due.h.least(2), 2);
        due.is("least(3)", due.h.least(3), NONE);
        due.is("least(5)", due.h.least(5), NONE);
        define("###");
        due.is("least(0)", due.h.least(0), ROOM);
        due.is("least(2)", due.h.least(2), ROOM);
        due.is("least(5)", due.h.least(5), ROOM);
        for (int name : NO_NAMES) {
            due.is("least(" + name + ")", due.h.least(name), MISSING);
            due.is("least(" + name + ") of a new object", new HedgeCheck().least(name), MISSING);
        }
        due.again().enter("A=a[B]b[B]|#######", 0);
        due.enter("B=###", 0);
        due.is("least(0)", due.h.least(0), 7);
        due.enter("B=##", 0);
        due.is("least(0)", due.h.least(0), 6);
    }

    private static void differ() {
        due.sentence("The size of a smallest hedge that belongs to the first name and not to the second one. The first of these that "
                + "holds: MISSING, one of them is no name; ROOM; NONE, there is no such hedge.");
        define("##");
        due.is("differ(0, 1)", due.h.differ(0, 1), 4);
        due.is("differ(1, 0)", due.h.differ(1, 0), 9);
        due.is("differ(0, 2)", due.h.differ(0, 2), 0);
        due.is("differ(2, 0)", due.h.differ(2, 0), 2);
        due.is("differ(0, 5)", due.h.differ(0, 5), 0);
        due.is("differ(5, 0)", due.h.differ(5, 0), NONE);
        due.is("differ(0, 0)", due.h.differ(0, 0), NONE);
        define("###");
        due.is("differ(0, 1)", due.h.differ(0, 1), ROOM);
        due.is("differ(0, 0)", due.h.differ(0, 0), ROOM);
        due.is("differ(5, 5)", due.h.differ(5, 5), ROOM);
        for (int name : NO_NAMES) {
            due.is("differ(" + name + ", 0)", due.h.differ(name, 0), MISSING);
            due.is("differ(0, " + name + ")", due.h.differ(0, name), MISSING);
            due.is("differ(" + name + ", " + name + ")", due.h.differ(name, name), MISSING);
            due.is("differ(" + name + ", 0) of a new object", new HedgeCheck().differ(name, 0), MISSING);
        }
    }

    private static void shows(int one, int other, long want, String document) {
        due.is("show(" + one + ", " + other + ")", due.h.show(one, other), want);
        due.is("document", due.document(), document);
    }

    private static void show() {
        due.sentence("Answers what differ() answers; and when that is 0 .. 12, the document becomes the smallest hedge that belongs to "
                + "the first name and not to the second one:");
        due.read("7", 0);
        shows(0, 1, NONE, "7");
        shows(6, 1, MISSING, "7");
        shows(0, -1, MISSING, "7");
        due.enter("A=", 0);
        shows(0, 1, 0, "");
        due.enter("A=#", 0);
        due.pad("8");
        shows(0, 1, 1, "0");
        shows(0, 0, NONE, "0");
        due.is("read()", due.h.read(), 0);
        due.is("the pad stays", due.document(), "8");
        shows(0, 1, 1, "0");
        due.enter("A=###########", 0);
        shows(0, 1, 11, "00000000000");
        due.enter("A=############", 0);
        shows(0, 1, 12, "000000000000");
        due.enter("A=#############", 0);
        shows(0, 1, 13, "000000000000");
        due.enter("A=d[B]d[B]d[B]d[B]d[B]d[B]d[B]d[B]d[B]d[B]d[B]d[B]", 0);
        due.enter("B=", 0);
        shows(0, 2, 12, "d[]d[]d[]d[]d[]d[]d[]d[]d[]d[]d[]d[]");
        due.again().enter("A=##############|a[B]", 0);
        due.enter("B=", 0);
        shows(0, 2, 1, "a[]");
        due.enter("C=a[B]", 0);
        shows(0, 2, 14, "a[]");
        define("###");
        due.read("7", 0);
        shows(0, 1, ROOM, "7");
        shows(0, 6, MISSING, "7");
        showFirst();
    }

    private static void showFirst() {
        due.sentence("of several of that size the one whose text comes first (that has the character with the lesser code where they "
                + "first differ).");
        due.enter("B=", 0);
        due.enter("A=d[B]|c[B]|b[B]|a[B]|#", 0);
        shows(0, 5, 1, "0");
        due.enter("A=d[B]|c[B]|b[B]|a[B]", 0);
        shows(0, 5, 1, "a[]");
        due.enter("A=d[B]|c[B]", 0);
        shows(0, 5, 1, "c[]");
        due.enter("A=a[B]c[B]|a[B]b[B]", 0);
        shows(0, 5, 2, "a[]b[]");
        due.again().enter("B=", 0);
        due.enter("C=b[B]", 0);
        due.enter("A=a[C]|a[B]b[B]", 0);
        shows(0, 5, 2, "a[]b[]");
        due.enter("C=#", 0);
        shows(0, 5, 2, "a[0]");
        due.enter("A=a[C]|a[B]#", 0);
        shows(0, 5, 2, "a[0]");
        due.enter("A=a[C]|#a[B]", 0);
        shows(0, 5, 2, "0a[]");
        due.enter("A=b[C]|a[B]d[B]", 0);
        shows(0, 5, 2, "a[]d[]");
    }

    /** A function that covers the hedges of 4, 8, .. numbers if so asked. */
    private static void defineFunction(String third, String function) {
        define(third);
        due.enter(function, 0);
    }

    private static void uncovered() {
        due.sentence("The size of a smallest hedge that belongs to the input of a function and for which it has no clause to choose. The "
                + "first of these that holds: MISSING, there is no such function, or it is not defined; ROOM; NONE, it is covered.");
        defineFunction("##", "g:A>A/.-");
        due.is("uncovered(1)", due.h.uncovered(1), 4);
        due.enter("g:A>A/#A-", 0);
        due.is("uncovered(1)", due.h.uncovered(1), 0);
        due.enter("g:D>A/.-", 0);
        due.is("uncovered(1)", due.h.uncovered(1), NONE);
        due.enter("g:C>A/#B-/#C-", 0);
        due.is("uncovered(1)", due.h.uncovered(1), 2);
        due.is("uncovered(0)", due.h.uncovered(0), MISSING);
        defineFunction("###", "g:D>A/.-");
        due.is("uncovered(1)", due.h.uncovered(1), ROOM);
        due.is("uncovered(0)", due.h.uncovered(0), MISSING);
        due.is("uncovered(2)", due.h.uncovered(2), MISSING);
        for (int function : NO_FUNCTIONS) {
            due.is("uncovered(" + function + ")", due.h.uncovered(function), MISSING);
        }
    }

    private static void useless() {
        due.sentence("How many clauses of a function are useless. The first of these that holds: MISSING, there is no such function, or it "
                + "is not defined; ROOM.");
        defineFunction("##", "g:A>A/.-/#D-/#B-/.-/#C-");
        due.is("useless(1)", due.h.useless(1), 3);
        due.enter("g:A>A/.-", 0);
        due.is("useless(1)", due.h.useless(1), 0);
        due.enter("g:D>A/.-/.-/.-/.-/.-/.-", 0);
        due.is("useless(1)", due.h.useless(1), 6);
        due.is("useless(0)", due.h.useless(0), MISSING);
        defineFunction("###", "g:A>A/.-");
        due.is("useless(1)", due.h.useless(1), ROOM);
        due.is("useless(0)", due.h.useless(0), MISSING);
        due.is("useless(2)", due.h.useless(2), MISSING);
        for (int function : NO_FUNCTIONS) {
            due.is("useless(" + function + ")", due.h.useless(function), MISSING);
        }
    }

    private static void wrong() {
        due.sentence("The number of the first wrong clause of a function; 0 when it has none. The first of these that holds: MISSING, there "
                + "is no such function, or it is not defined; ROOM.");
        defineFunction("##", "g:A>A/.-/#D-0");
        due.is("wrong(1)", due.h.wrong(1), 0);
        due.enter("g:A>A/.-0/#D-0", 0);
        due.is("wrong(1)", due.h.wrong(1), 1);
        due.enter("g:A>A/#D-0/.-0/.-0", 0);
        due.is("wrong(1)", due.h.wrong(1), 2);
        due.enter("g:C>A/#D-/#D-/#D-/#D-/#D-/#B-", 0);
        due.is("wrong(1)", due.h.wrong(1), 0);
        due.enter("E=#", 0);
        due.enter("g:C>A/#D-/#D-/#D-/#D-/#D-/#E-0", 0);
        due.is("wrong(1)", due.h.wrong(1), 6);
        due.is("wrong(0)", due.h.wrong(0), MISSING);
        defineFunction("###", "g:A>A/.-0");
        due.is("wrong(1)", due.h.wrong(1), ROOM);
        due.is("wrong(0)", due.h.wrong(0), MISSING);
        due.is("wrong(2)", due.h.wrong(2), MISSING);
        for (int function : NO_FUNCTIONS) {
            due.is("wrong(" + function + ")", due.h.wrong(function), MISSING);
        }
    }

    private static void safe() {
        due.sentence("Whether a function is safe; false also when there is no such function, or there are more than 40 kinds.");
        defineFunction("##", "g:D>A/.-");
        due.is("safe(1)", due.h.safe(1), true);
        due.enter("g:A>A/.-", 0);
        due.is("safe(1)", due.h.safe(1), false);
        due.is("safe(0)", due.h.safe(0), false);
        defineFunction("###", "g:D>A/.-");
        due.is("safe(1)", due.h.safe(1), false);
        due.enter("C=##", 0);
        due.is("safe(1)", due.h.safe(1), true);
        for (int function : NO_FUNCTIONS) {
            due.is("safe(" + function + ")", due.h.safe(function), false);
        }
    }

    private static void run() {
        due.sentence("Runs a function on the document and answers how many times functions were applied (this one included).");
        due.enter("A=#*", 0);
        due.enter("f:A>A/.-/#A-f(y)", 0);
        due.enter("g:A>A/.-7/#A-h(y)", 0);
        due.enter("h:A>A/.-/#A-g(y)", 0);
        due.run(0, "", 1, "");
        due.run(0, "0", 2, "");
        due.run(0, "000000000000", 13, "");
        due.run(1, "", 1, "7");
        due.run(1, "0", 2, "");
        due.run(1, "00", 3, "7");
        due.is("run(2)", due.h.run(2), 3);
        due.is("value", due.value(), "");
        due.is("the document stays", due.document(), "00");
    }

    private static void runKeepsOld() {
        due.sentence("MISSING when there is no such function, or it is not defined; STUCK or FULL when running ended so: the value is the "
                + "old one then.");
        due.enter("A=#*", 0);
        due.enter("f:A>A/#A-#a[#]", 0);
        due.run(0, "0", 1, "0a[0]");
        due.is("run(1)", due.h.run(1), MISSING);
        due.is("run(2)", due.h.run(2), MISSING);
        for (int function : NO_FUNCTIONS) {
            due.is("run(" + function + ")", due.h.run(function), MISSING);
        }
        due.is("value", due.value(), "0a[0]");
        due.enter("f:A>A/#A-12345g(y)/.-1", 0);
        due.run(0, "0", STUCK, "0a[0]");
        due.run(0, "a[]", STUCK, "0a[0]");
        due.enter("f:A>A/#A-a[#y]b[y]", 0);
        due.run(0, "0000000000", FULL, "0a[0]");
        due.is("valueSize()", due.h.valueSize(), 3);
        due.run(0, "000000000", 1, "a[000000000]b[00000000]");
        due.run(0, "0000000000", FULL, "a[000000000]b[00000000]");
        due.is("valueSize()", due.h.valueSize(), 19);
        due.is("run(1)", due.h.run(1), MISSING);
        due.is("valueSize()", due.h.valueSize(), 19);
    }

    private static void valueSize() {
        due.sentence("The size of the value.");
        due.is("valueSize() at first", due.h.valueSize(), 0);
        due.enter("A=#*", 0);
        due.enter("f:A>A/#A-a[#y]12345678/.-b[c[]d[0]]", 0);
        due.run(0, "", 1, "b[c[]d[0]]");
        due.is("valueSize()", due.h.valueSize(), 4);
        due.run(0, "00000000000", 1, "a[00000000000]12345678");
        due.is("valueSize()", due.h.valueSize(), 20);
        due.run(0, "000000000000", FULL, "a[00000000000]12345678");
        due.is("valueSize()", due.h.valueSize(), 20);
        due.read("", 0);
        due.is("valueSize()", due.h.valueSize(), 20);
    }

    private static void value() {
        due.sentence("The code of character k (from 0) of the text of the value; NONE when there is none.");
        due.is("value(0)", due.h.value(0), NONE);
        due.enter("A=a[A]A|", 0);
        due.enter("f:A>A/.-a[0]9/a[A]A-a[b[c[d[a[b[c[d[a[x]]]]]]]]]", 0);
        due.is("run(0)", due.h.run(0), 1);
        for (int k : new int[] {-1, -2, 5, 6, 79, 80, 1000, 65536, Integer.MIN_VALUE, Integer.MAX_VALUE}) {
            due.is("value(" + k + ")", due.h.value(k), NONE);
        }
        due.is("value(0)", due.h.value(0), 'a');
        due.is("value(1)", due.h.value(1), '[');
        due.is("value(2)", due.h.value(2), '0');
        due.is("value(3)", due.h.value(3), ']');
        due.is("value(4)", due.h.value(4), '9');
        due.read("a[a[a[a[a[a[a[a[a[a[a[a[]]]]]]]]]]]]", 0);
        due.is("run(0)", due.h.run(0), 1);
        due.is("valueSize()", due.h.valueSize(), 20);
        due.is("value(59)", due.h.value(59), ']');
        due.is("value(60)", due.h.value(60), NONE);
    }

    private static void valueValid() {
        due.sentence("Whether the value belongs to a name; false when there is no such name.");
        for (char name = 'A'; name <= 'F'; name++) {
            due.enter(name + "=", 0);
        }
        due.read("0", 0);
        for (int name = 0; name < 6; name++) {
            due.is("valueValid(" + name + ") of the empty value", due.h.valueValid(name), true);
        }
        for (int name : NO_NAMES) {
            due.is("valueValid(" + name + ")", due.h.valueValid(name), false);
        }
        due.enter("f:A>A/#A-0", 0);
        due.is("run(0)", due.h.run(0), 1);
        due.is("valueValid(0)", due.h.valueValid(0), false);
        due.enter("A=#", 0);
        due.is("valueValid(0)", due.h.valueValid(0), true);
        due.is("valueValid(5)", due.h.valueValid(5), false);
        due.again().enter("A=#*a[B]", 0);
        due.enter("B=", 0);
        due.enter("f:A>A/#A-12345678#y", 0);
        due.run(0, "00000000000a[]", 1, "1234567800000000000a[]");
        due.is("valueValid(0) of 20 nodes", due.h.valueValid(0), true);
        due.enter("A=#*b[B]", 0);
        due.is("valueValid(0) of 20 nodes", due.h.valueValid(0), false);
    }

    private static void take() {
        due.sentence("The value (at first the empty hedge) becomes the document: true; refused with false when its size is more than 12.");
        due.read("7", 0);
        due.is("take() of the first value", due.h.take(), true);
        due.is("document", due.document(), "");
        due.enter("A=#*", 0);
        due.enter("f:A>A/#A-a[#y]", 0);
        due.run(0, "0000000000", 1, "a[0000000000]");
        due.is("take() of 11 nodes", due.h.take(), true);
        due.is("document", due.document(), "a[0000000000]");
        due.run(0, "00000000000", 1, "a[00000000000]");
        due.is("take() of 12 nodes", due.h.take(), true);
        due.is("document", due.document(), "a[00000000000]");
        due.is("run(0) on what was taken", due.h.run(0), STUCK);
        due.is("the value stays", due.value(), "a[00000000000]");
        due.run(0, "000000000000", 1, "a[000000000000]");
        due.is("take() of 13 nodes", due.h.take(), false);
        due.is("document", due.document(), "000000000000");
        due.is("value", due.value(), "a[000000000000]");
        due.again().enter("A=#*", 0);
        due.enter("f:A>A/#A-12345678#y/a[A]A-", 0);
        due.run(0, "000000000000", 1, "12345678000000000000");
        due.is("take() of 20 nodes", due.h.take(), false);
        due.is("document", due.document(), "000000000000");
        due.run(0, "a[]", 1, "");
        due.is("take() of none", due.h.take(), true);
        due.is("size()", due.h.size(), 0);
        due.enter("f:A>A/.-1/#A-a[y]", 0);
        due.is("run(0)", due.h.run(0), 1);
        due.is("the document is not the new value", due.document(), "");
        due.is("take()", due.h.take(), true);
        due.is("run(0) on what was taken", due.h.run(0), 1);
        due.is("value", due.value(), "a[]");
        due.is("document", due.document(), "1");
    }
}
