/** Terms, RUNNING: the sentences that name a boundary. */
final class RunningTermsTest {
    private static final int STUCK = HedgeCheck.STUCK;
    private static final int FULL = HedgeCheck.FULL;
    private static final Due due = new Due();

    public static void main(String[] args) {
        counted();
        stuck();
        leftToRight();
        numbers();
        elements();
        hedges();
        calls();
        twentyFirstNode();
        value();
        Due.end();
    }

    /** A new object with A, all hedges of numbers and of elements a. */
    private static void begin() {
        due.again().enter("A=#A|a[A]A|", 0);
    }

    private static void counted() {
        due.sentence("Applying a function is counted;");
        begin();
        due.enter("f:A>A/.-/#A-/a[A]A-b[f(x)]f(y)", 0);
        due.run(0, "", 1, "");
        due.run(0, "a[]", 3, "b[]");
        due.run(0, "a[a[]]0", 5, "b[b[]]");
        due.run(0, "a[a[a[]]]a[]", 9, "b[b[b[]]]b[]");
        due.enter("f:A>A/.-/#A-f(y)/a[A]A-f(x)", 0);
        due.run(0, "00000000000", 12, "");
        due.run(0, "000000000000", 13, "");
        due.run(0, "a[a[a[a[a[a[a[a[a[a[a[a[]]]]]]]]]]]]", 13, "");
        due.enter("f:A>A/.-/#A-a[f(y)]f(y)", 0);
        due.run(0, "0000", 31, "a[a[a[a[]]a[]]a[a[]]a[]]a[a[a[]]a[]]a[a[]]a[]");
    }

    private static void stuck() {
        due.sentence("it is STUCK when it is not defined or no clause matches.");
        begin();
        due.enter("f:A>A/#A-1g(y)/.-2", 0);
        due.run(0, "a[]", STUCK, "");
        due.run(0, "", 1, "2");
        due.run(0, "0", STUCK, "2");
        due.enter("g:A>A/#A-3", 0);
        due.run(0, "0", STUCK, "2");
        due.run(0, "00", 2, "13");
        due.run(0, "0a[]", STUCK, "13");
        due.enter("g:A>A/#A-3/.-", 0);
        due.run(0, "0", 2, "1");
        due.is("run of one that is not defined", due.h.run(2), HedgeCheck.MISSING);
    }

    private static void leftToRight() {
        due.sentence("Otherwise the result of the clause that it chooses is written out from left to right behind what is "
                + "written already:");
        begin();
        due.enter("g:A>A/#A-7y/.-8", 0);
        due.enter("f:A>A/a[A]A-1a[2x]3b[g(x)]4c[y]5g(y)", 0);
        due.run(0, "a[6]9", 3, "1a[26]3b[7]4c[9]57");
        due.run(0, "a[]", 3, "1a[2]3b[8]4c[]58");
        due.enter("f:A>A/#A-a[h(y)]b[y]c[y]", 0);
        due.run(0, "000000000000", STUCK, "1a[2]3b[8]4c[]58");
        due.enter("f:A>A/#A-b[y]c[y]a[h(y)]", 0);
        due.run(0, "000000000000", FULL, "1a[2]3b[8]4c[]58");
    }

    private static void numbers() {
        due.sentence("a digit, and the number for #, is a node;");
        begin();
        due.enter("f:A>A/#A-a[y]12345678", 0);
        due.run(0, "000000000000", 1, "a[00000000000]12345678");
        due.enter("f:A>A/#A-a[y]123456789", 0);
        due.run(0, "000000000000", FULL, "a[00000000000]12345678");
        due.enter("f:A>A/#A-b[y]########", 0);
        due.run(0, "900000000000", 1, "b[00000000000]99999999");
        due.is("valueSize()", due.h.valueSize(), 20);
        due.enter("f:A>A/#A-c[y]#########", 0);
        due.run(0, "900000000000", FULL, "b[00000000000]99999999");
    }

    private static void elements() {
        due.sentence("of an element with a result in brackets the node itself is written first, then that result;");
        begin();
        due.enter("f:A>A/#A-a[y]1234567a[]", 0);
        due.run(0, "000000000000", 1, "a[00000000000]1234567a[]");
        due.enter("f:A>A/#A-b[y]1234567a[b[]]", 0);
        due.run(0, "000000000000", FULL, "a[00000000000]1234567a[]");
        due.enter("f:A>A/#A-b[y]1234567a[h(y)]", 0);
        due.run(0, "000000000000", STUCK, "a[00000000000]1234567a[]");
        due.enter("f:A>A/#A-b[y]12345678a[h(y)]", 0);
        due.run(0, "000000000000", FULL, "a[00000000000]1234567a[]");
        due.enter("f:A>A/#A-a[a[a[a[a[a[a[a[a[y]]]]]]]]]", 0);
        due.run(0, "000000000000", 1, "a[a[a[a[a[a[a[a[a[00000000000]]]]]]]]]");
        due.enter("f:A>A/#A-a[a[a[a[a[a[a[a[a[a[y]]]]]]]]]]", 0);
        due.run(0, "000000000000", FULL, "a[a[a[a[a[a[a[a[a[00000000000]]]]]]]]]");
    }

    private static void hedges() {
        due.sentence("x or y is written with all its nodes, in the order of its text;");
        begin();
        due.enter("f:A>A/a[A]A-b[x]c[y]", 0);
        due.run(0, "a[]", 1, "b[]c[]");
        due.run(0, "a[0]1", 1, "b[0]c[1]");
        due.run(0, "a[a[1a[2]3]4]a[5]6", 1, "b[a[1a[2]3]4]c[a[5]6]");
        due.enter("f:A>A/a[A]A-123456789x", 0);
        due.run(0, "a[00000000000]", 1, "12345678900000000000");
        due.enter("f:A>A/a[A]A-1234567890x", 0);
        due.run(0, "a[00000000000]", FULL, "12345678900000000000");
        due.run(0, "a[a[a[a[a[a[a[a[a[a[a[]]]]]]]]]]]", 1, "1234567890a[a[a[a[a[a[a[a[a[a[]]]]]]]]]]");
        due.run(0, "a[a[a[a[a[a[a[a[a[a[a[a[]]]]]]]]]]]]", FULL, "1234567890a[a[a[a[a[a[a[a[a[a[]]]]]]]]]]");
        begin();
        due.enter("f:A>A/a[A]A-123456789y", 0);
        due.run(0, "a[]00000000000", 1, "12345678900000000000");
        due.enter("f:A>A/a[A]A-1234567890y", 0);
        due.run(0, "a[]00000000000", FULL, "12345678900000000000");
        due.run(0, "a[]0000000000", 1, "12345678900000000000");
    }

    private static void calls() {
        due.sentence("a call is applied, in the same way, when it is reached.");
        begin();
        due.enter("g:A>A/.-/#A-#y", 0);
        due.enter("f:A>A/#A-123456789g(y)", 0);
        due.run(0, "000000000000", 2, "12345678900000000000");
        due.enter("f:A>A/#A-1234567890g(y)", 0);
        due.run(0, "000000000000", FULL, "12345678900000000000");
        due.run(0, "00000000000", 2, "12345678900000000000");
        due.enter("f:A>A/#A-a[y]b[c[h(y)]]", 0);
        due.run(0, "0", STUCK, "12345678900000000000");
        due.enter("f:A>A/#A-a[y]b[y]c[h(y)]", 0);
        due.run(0, "00000000000", FULL, "12345678900000000000");
        due.run(0, "000000000", STUCK, "12345678900000000000");
        begin();
        due.enter("f:A>A/#A-1g(y)", 0);
        due.enter("g:A>A/#A-2h(y)", 0);
        due.enter("h:A>A/#A-3f(y)/.-4", 0);
        due.run(0, "00", 3, "124");
        due.run(0, "00000", 6, "123124");
        due.run(0, "0", STUCK, "123124");
        due.run(0, "000", STUCK, "123124");
    }

    private static void twentyFirstNode() {
        due.sentence("Running ends at once when it is stuck, and when a 21st node would be written: it is FULL then.");
        begin();
        due.enter("f:A>A/.-1234567/#A-#f(y)", 0);
        due.run(0, "000000000000", 13, "0000000000001234567");
        due.is("valueSize()", due.h.valueSize(), 19);
        due.enter("f:A>A/.-12345678/#A-#f(y)", 0);
        due.run(0, "000000000000", 13, "00000000000012345678");
        due.is("valueSize()", due.h.valueSize(), 20);
        due.enter("f:A>A/.-123456789/#A-#f(y)", 0);
        due.run(0, "000000000000", FULL, "00000000000012345678");
        due.run(0, "00000000000", 12, "00000000000123456789");
        due.enter("f:A>A/.-12345678h(y)/#A-#f(y)", 17);
        due.enter("f:A>A/#A-a[g(y)]b[y]c[y]", 0);
        due.run(0, "000000000000", STUCK, "00000000000123456789");
        due.enter("g:A>A/#A-", 0);
        due.run(0, "000000000000", FULL, "00000000000123456789");
        due.run(0, "0000000000", FULL, "00000000000123456789");
        due.run(0, "000000000", 2, "a[]b[00000000]c[00000000]");
    }

    private static void value() {
        due.sentence("If neither happens, what was written is the VALUE, in place of the old one.");
        begin();
        due.enter("f:A>A/.-12/#A-y/a[A]A-h(x)", 0);
        due.run(0, "", 1, "12");
        due.run(0, "0", 1, "");
        due.is("valueSize()", due.h.valueSize(), 0);
        due.run(0, "0987654321", 1, "987654321");
        due.is("valueSize()", due.h.valueSize(), 9);
        due.run(0, "01", 1, "1");
        due.is("valueSize()", due.h.valueSize(), 1);
        due.run(0, "a[]", STUCK, "1");
        due.is("valueSize()", due.h.valueSize(), 1);
    }
}
