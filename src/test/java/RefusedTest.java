/** "A refused call changes nothing.": every refused call, beside a twin object that it is not made of. */
final class RefusedTest {
    private static final int NONE = HedgeCheck.NONE;
    private static final int MISSING = HedgeCheck.MISSING;
    private static final int ROOM = HedgeCheck.ROOM;
    private static final Due due = new Due();

    private interface Call {
        long on(HedgeCheck h);
    }

    public static void main(String[] args) {
        due.sentence("A refused call changes nothing.");
        typing();
        entering();
        reading();
        showing();
        running();
        taking();
        asking();
        tooManyKinds();
        Due.end();
    }

    private static long truth(boolean answer) {
        return answer ? 1 : 0;
    }

    private static void type(HedgeCheck h, String text) {
        h.clear();
        for (int k = 0; k < text.length(); k++) {
            h.type(text.charAt(k));
        }
    }

    private static void enter(HedgeCheck h, String text) {
        type(h, text);
        due.is("enter of " + text, h.enter(), 0);
    }

    /** The definitions have 15 items, the document has 12 nodes and the value 13; g would run full, h is not defined. */
    private static HedgeCheck made(String third, String pad) {
        return made(third, "D=", pad);
    }

    private static HedgeCheck made(String third, String fourth, String pad) {
        due.again();
        HedgeCheck h = new HedgeCheck();
        enter(h, "A=#*");
        enter(h, "B=a[A]");
        enter(h, third);
        enter(h, fourth);
        enter(h, "f:A>A/#A-a[#y]/.-0/b[B]D-");
        enter(h, "g:A>A/#A-a[#y]b[y]");
        type(h, "012345678901");
        due.is("read()", h.read(), 0);
        due.is("run(0)", h.run(0), 1);
        type(h, pad);
        return h;
    }

    /** All that the object can be asked, the pad by what it can be read as and by its room. */
    private static String told(HedgeCheck h) {
        StringBuilder told = new StringBuilder().append("kinds ").append(h.kinds());
        for (int name = 0; name < 6; name++) {
            told.append(" name ").append(h.least(name)).append(h.valid(name)).append(h.valueValid(name));
            told.append(' ').append(h.differ(name, 0)).append(' ').append(h.differ(0, name));
        }
        for (int function = 0; function < 3; function++) {
            told.append(" function ").append(h.uncovered(function)).append(' ').append(h.useless(function));
            told.append(' ').append(h.wrong(function)).append(h.safe(function));
        }
        tellHedges(h, told);
        told.append(" read ").append(h.read());
        tellHedges(h, told);
        told.append(" enter ").append(h.enter()).append(' ').append(h.least(0)).append(' ').append(h.least(4));
        int room = 0;
        while (room < 81 && h.type('0')) {
            room++;
        }
        return told.append(" room ").append(room).append(" read ").append(h.read()).toString();
    }

    private static void tellHedges(HedgeCheck h, StringBuilder told) {
        told.append(" document ").append(h.size()).append(' ');
        for (int k = 0; h.text(k) != NONE; k++) {
            told.append((char) h.text(k));
        }
        told.append(" value ").append(h.valueSize()).append(' ');
        for (int k = 0; h.value(k) != NONE; k++) {
            told.append((char) h.value(k));
        }
    }

    private static void refused(String about, HedgeCheck one, HedgeCheck twin, Call call, long want) {
        due.is(about, call.on(one), want);
        due.is("what is told after " + about, told(one), told(twin));
    }

    private static void refused(String about, String pad, Call call, long want) {
        refused(about + " with the pad " + pad, made("C=#############", pad), made("C=#############", pad), call, want);
    }

    private static void typing() {
        for (char code : new char[] {0, 31, 127, 65535}) {
            refused("type of code " + (int) code, "0", h -> truth(h.type(code)), 0);
        }
        refused("type of character 81", "0".repeat(80), h -> truth(h.type('1')), 0);
        refused("type of character 81", "A=" + "|".repeat(78), h -> truth(h.type('|')), 0);
        refused("type of code 127", "0".repeat(80), h -> truth(h.type((char) 127)), 0);
    }

    private static void entering() {
        refused("enter()", "", h -> h.enter(), 1);
        refused("enter()", "0", h -> h.enter(), 1);
        refused("enter()", "A", h -> h.enter(), 2);
        refused("enter()", "A=##|#]", h -> h.enter(), 7);
        refused("enter()", "A=||||||||", h -> h.enter(), 10);
        refused("enter()", "A=#################", h -> h.enter(), 19);
        refused("enter()", "A=###", h -> h.enter(), HedgeCheck.FULL);
        refused("enter()", "E=##", h -> h.enter(), HedgeCheck.FULL);
        refused("enter()", "D=##|a[A]|", h -> h.enter(), HedgeCheck.FULL);
        refused("enter()", "f:B>C/.-1/.-x", h -> h.enter(), 13);
        refused("enter()", "h:A>A/.", h -> h.enter(), 8);
        refused("enter()", "g:A>A/.-/.-/.-/.-/.-/.-/.-", h -> h.enter(), 24);
        refused("enter()", "g:A>A/.-0123456789012", h -> h.enter(), 21);
    }

    private static void reading() {
        refused("read()", "A=#", h -> h.read(), 1);
        refused("read()", "b[3", h -> h.read(), 4);
        refused("read()", "c[]]", h -> h.read(), 4);
        refused("read()", "9876543210987", h -> h.read(), 13);
    }

    private static void showing() {
        refused("show(0, 6)", "0", h -> h.show(0, 6), MISSING);
        refused("show(-1, 0)", "0", h -> h.show(-1, 0), MISSING);
        refused("show(0, 0)", "0", h -> h.show(0, 0), NONE);
        refused("show(5, 0)", "0", h -> h.show(5, 0), NONE);
        refused("show(2, 1)", "0", h -> h.show(2, 1), 13);
    }

    private static void running() {
        refused("run(-1)", "0", h -> h.run(-1), MISSING);
        refused("run(3)", "0", h -> h.run(3), MISSING);
        refused("run(2)", "0", h -> h.run(2), MISSING);
        refused("run(1)", "0", h -> h.run(1), HedgeCheck.FULL);
        HedgeCheck one = made("C=#", "h:A>A/#A-#h(y)");
        HedgeCheck twin = made("C=#", "h:A>A/#A-#h(y)");
        due.is("enter()", one.enter(), 0);
        due.is("enter()", twin.enter(), 0);
        refused("run(2)", one, twin, h -> h.run(2), HedgeCheck.STUCK);
    }

    private static void taking() {
        refused("take()", "0", h -> truth(h.take()), 0);
    }

    /** Questions change nothing, whether they are refused or not. */
    private static void asking() {
        for (int k : new int[] {-1, 0, 2, 6, 40, Integer.MIN_VALUE, Integer.MAX_VALUE}) {
            HedgeCheck one = made("C=#############", "A=##");
            one.text(k);
            one.value(k);
            one.valid(k);
            one.valueValid(k);
            one.kinds();
            one.least(k);
            one.differ(k, 1);
            one.differ(1, k);
            one.uncovered(k);
            one.useless(k);
            one.wrong(k);
            one.safe(k);
            one.size();
            one.valueSize();
            due.is("what is told after questions with " + k, told(one), told(made("C=#############", "A=##")));
        }
    }

    private static void tooManyKinds() {
        for (Call call : new Call[] {h -> h.kinds(), h -> h.least(0), h -> h.differ(0, 1), h -> h.show(0, 1), h -> h.uncovered(0),
            h -> h.useless(0), h -> h.wrong(0)}) {
            HedgeCheck one = made("C=#####C|", "D=#########D|", "A=##");
            refused("a call with ROOM", one, made("C=#####C|", "D=#########D|", "A=##"), call, ROOM);
        }
    }
}
