/** Promises 9 to 12: kinds, least, differ, show. */
final class KindsTest {
    private static final Due due = new Due();

    public static void main(String[] args) {
        kinds();
        fortyKinds();
        mostRests();
        again();
        least();
        largeSizes();
        differ();
        show();
        showOrder();
        showLimit();
        Due.end();
    }

    private static void kinds() {
        due.fresh("kinds");
        due.is("kinds()", due.h.kinds(), 2);
        due.enter("A=", 0);
        due.is("kinds()", due.h.kinds(), 2);
        due.enter("A=A", 0);
        due.is("kinds()", due.h.kinds(), 2);
        due.enter("A=#", 0);
        due.is("kinds()", due.h.kinds(), 3);
        due.enter("A=#*", 0);
        due.is("kinds()", due.h.kinds(), 3);
        due.enter("A=##", 0);
        due.is("kinds()", due.h.kinds(), 4);
        due.enter("A=################", 0);
        due.is("kinds()", due.h.kinds(), 18);
        due.enter("A=", 0);
        due.enter("B=a[A]B|", 0);
        due.is("all of a[] but the empty one", due.h.kinds(), 3);
        due.enter("B=B|", 0);
        due.enter("f:A>A/.-1", 0);
        due.is("functions make no kinds", due.h.kinds(), 2);
    }

    private static void fortyKinds() {
        due.fresh("40 kinds");
        due.enter("A=####A|", 0);
        due.enter("B=#########B|", 0);
        due.enter("f:A>A/.-", 0);
        due.is("kinds()", due.h.kinds(), 38);
        due.enter("C=##", 0);
        due.is("kinds()", due.h.kinds(), 40);
        due.is("differ(0, 1)", due.h.differ(0, 1), 4);
        due.enter("C=###", 0);
        due.is("kinds()", due.h.kinds(), HedgeCheck.ROOM);
        due.is("least(0)", due.h.least(0), HedgeCheck.ROOM);
        due.is("least(5)", due.h.least(5), HedgeCheck.ROOM);
        due.is("least(6)", due.h.least(6), HedgeCheck.MISSING);
        due.is("differ(0, 1)", due.h.differ(0, 1), HedgeCheck.ROOM);
        due.is("differ(0, 6)", due.h.differ(0, 6), HedgeCheck.MISSING);
        due.is("differ(-1, 0)", due.h.differ(-1, 0), HedgeCheck.MISSING);
        due.read("12", 0);
        due.is("show(0, 1)", due.h.show(0, 1), HedgeCheck.ROOM);
        due.is("show(6, 1)", due.h.show(6, 1), HedgeCheck.MISSING);
        due.is("document", due.document(), "12");
        due.is("uncovered(0)", due.h.uncovered(0), HedgeCheck.ROOM);
        due.is("uncovered(1)", due.h.uncovered(1), HedgeCheck.MISSING);
        due.is("useless(0)", due.h.useless(0), HedgeCheck.ROOM);
        due.is("useless(1)", due.h.useless(1), HedgeCheck.MISSING);
        due.is("wrong(0)", due.h.wrong(0), HedgeCheck.ROOM);
        due.is("wrong(1)", due.h.wrong(1), HedgeCheck.MISSING);
        due.is("safe(0)", due.h.safe(0), false);
        due.enter("C=", 0);
        due.is("kinds()", due.h.kinds(), 38);
        due.is("uncovered(0)", due.h.uncovered(0), 4);
        due.enter("C=################", HedgeCheck.FULL);
        due.is("kinds()", due.h.kinds(), 38);
    }

    /** 48 alternatives and 16 items, the last of them in the last alternative. */
    private static void mostRests() {
        due.fresh("64 rests");
        due.enter("A=#|#|#|#|#|#|#|#", 0);
        due.enter("B=a[A]|a[A]|a[A]|B|B|B|B|B", 0);
        due.enter("C=c[C]|c[C]|c[C]|C|C|C|C|", 0);
        due.enter("D=D|D|D|D|D|D|D|D", 0);
        due.enter("E=E|E|E|E|E|E|E|", 0);
        due.enter("F=A|A|A|A|A|A|A|#?d[E]", 0);
        due.is("kinds()", due.h.kinds(), 7);
        due.is("least(0)", due.h.least(0), 1);
        due.is("least(1)", due.h.least(1), 2);
        due.is("least(2)", due.h.least(2), 0);
        due.is("least(3)", due.h.least(3), HedgeCheck.NONE);
        due.is("least(4)", due.h.least(4), 0);
        due.is("least(5)", due.h.least(5), 1);
        shows(5, 0, 1, "d[]");
        due.read("7d[]", 0);
        due.is("valid(5)", due.h.valid(5), true);
        due.read("77d[]", 0);
        due.is("valid(5)", due.h.valid(5), false);
        due.read("d[]d[]", 0);
        due.is("valid(5)", due.h.valid(5), false);
        due.read("7", 0);
        due.is("valid(5)", due.h.valid(5), true);
        due.read("", 0);
        due.is("valid(5)", due.h.valid(5), false);
        due.enter("F=A|A|A|A|A|A|A|#d[E]*", 0);
        due.is("valid(5)", due.h.valid(5), false);
        shows(5, 0, 2, "0d[]");
        due.enter("F=A|A|A|A|A|A|A|#?d[E]?", 0);
        shows(5, 0, 0, "");
    }

    /** Nothing is left of what a name was before. */
    private static void again() {
        due.fresh("in place of the old one");
        due.enter("A=#*#?", 0);
        due.is("least(0)", due.h.least(0), 0);
        due.enter("A=##", 0);
        due.is("least(0)", due.h.least(0), 2);
        due.is("kinds()", due.h.kinds(), 4);
        due.enter("A=##*", 0);
        due.is("least(0)", due.h.least(0), 1);
        due.enter("A=#B", 0);
        due.enter("B=", 0);
        due.is("least(0)", due.h.least(0), 1);
        due.enter("A=##", 0);
        due.is("least(0)", due.h.least(0), 2);
        due.is("differ(0, 1)", due.h.differ(0, 1), 2);
        due.enter("A=a[B]", 0);
        shows(0, 5, 1, "a[]");
        due.enter("A=b[B]", 0);
        shows(0, 5, 1, "b[]");
    }

    private static void least() {
        due.fresh("least");
        due.is("least(0)", due.h.least(0), HedgeCheck.NONE);
        due.is("least(-1)", due.h.least(-1), HedgeCheck.MISSING);
        due.is("least(6)", due.h.least(6), HedgeCheck.MISSING);
        due.is("least of the least int", due.h.least(Integer.MIN_VALUE), HedgeCheck.MISSING);
        due.enter("A=a[B]B", 0);
        due.enter("B=#C|##a[D]", 0);
        due.is("least(0)", due.h.least(0), HedgeCheck.NONE);
        due.enter("C=b[D]###", 0);
        due.is("least(2)", due.h.least(2), HedgeCheck.NONE);
        due.enter("D=", 0);
        due.is("least(2)", due.h.least(2), 4);
        due.is("least(1)", due.h.least(1), 3);
        due.is("least(0)", due.h.least(0), 7);
        due.enter("E=a[E]", 0);
        due.is("least(4)", due.h.least(4), HedgeCheck.NONE);
        due.enter("F=a[F]?#", 0);
        due.is("least(5)", due.h.least(5), 1);
    }

    private static void largeSizes() {
        due.fresh("large sizes");
        due.enter("A=###", 0);
        due.enter("B=a[A]a[A]a[A]", 0);
        due.enter("C=a[B]a[B]a[B]", 0);
        due.enter("D=a[C]a[C]a[C]", 0);
        due.enter("E=a[D]a[D]", 0);
        due.enter("F=a[E]a[E]", 0);
        due.is("least(0)", due.h.least(0), 3);
        due.is("least(1)", due.h.least(1), 12);
        due.is("least(2)", due.h.least(2), 39);
        due.is("least(3)", due.h.least(3), 120);
        due.is("least(4)", due.h.least(4), 242);
        due.is("least(5)", due.h.least(5), 486);
        due.read("9", 0);
        due.is("show(5, 0)", due.h.show(5, 0), 486);
        due.is("document", due.document(), "9");
    }

    private static void differ() {
        due.fresh("differ");
        due.is("differ(0, 0)", due.h.differ(0, 0), HedgeCheck.NONE);
        due.is("differ(0, 6)", due.h.differ(0, 6), HedgeCheck.MISSING);
        due.is("differ(6, 0)", due.h.differ(6, 0), HedgeCheck.MISSING);
        due.is("differ(-1, -1)", due.h.differ(-1, -1), HedgeCheck.MISSING);
        due.enter("A=##A|", 0);
        due.enter("B=###B|", 0);
        due.is("differ(0, 1)", due.h.differ(0, 1), 2);
        due.is("differ(1, 0)", due.h.differ(1, 0), 3);
        due.is("differ(0, 2)", due.h.differ(0, 2), 0);
        due.is("differ(2, 0)", due.h.differ(2, 0), HedgeCheck.NONE);
        due.is("differ(1, 1)", due.h.differ(1, 1), HedgeCheck.NONE);
        due.enter("C=#*", 0);
        due.is("differ(0, 2)", due.h.differ(0, 2), HedgeCheck.NONE);
        due.is("differ(2, 0)", due.h.differ(2, 0), 1);
        due.enter("D=a[A]?C", 0);
        due.enter("E=a[C]*#*", 0);
        due.is("differ(3, 4)", due.h.differ(3, 4), HedgeCheck.NONE);
        due.is("differ(4, 3)", due.h.differ(4, 3), 2);
    }

    private static void shows(int one, int other, long size, String document) {
        due.is("show(" + one + ", " + other + ")", due.h.show(one, other), size);
        due.is("document", due.document(), document);
        due.is("valid(" + one + ")", due.h.valid(one), size >= 0);
        due.is("valid(" + other + ")", due.h.valid(other), false);
    }

    private static void show() {
        due.fresh("show");
        due.read("a[1]", 0);
        due.is("show(0, 6)", due.h.show(0, 6), HedgeCheck.MISSING);
        due.is("show(0, 1)", due.h.show(0, 1), HedgeCheck.NONE);
        due.is("the document stays", due.document(), "a[1]");
        due.enter("A=b[A]a[A]|#", 0);
        due.enter("B=b[C]a[C]|#", 0);
        due.enter("C=#", 0);
        shows(0, 5, 1, "0");
        shows(0, 1, 7, "b[0]a[b[0]a[0]]");
        due.enter("D=", 0);
        shows(3, 0, 0, "");
        due.is("size()", due.h.size(), 0);
        due.is("value", due.value(), "");
    }

    private static void showOrder() {
        due.fresh("of several the first");
        due.enter("A=b[A]A|a[A]A|", 0);
        due.enter("B=a[C]|", 0);
        due.enter("C=", 0);
        shows(0, 1, 1, "b[]");
        due.enter("B=a[C]|b[C]|", 0);
        shows(0, 1, 2, "a[]a[]");
        due.enter("B=a[C]|b[C]|a[C]a[C]|a[C]b[C]|", 0);
        shows(0, 1, 2, "a[a[]]");
        due.enter("D=a[C]", 0);
        due.enter("B=a[C]|b[C]|a[C]a[C]|a[C]b[C]|a[D]|", 0);
        shows(0, 1, 2, "a[b[]]");
        due.fresh("digits before brackets, brackets before labels");
        // Both have 3 nodes: 'a[0]0' differs from 'a[00]' where ']' meets '0'.
        due.enter("A=a[B]#|a[C]", 0);
        due.enter("B=#", 0);
        due.enter("C=##", 0);
        shows(0, 5, 3, "a[00]");
        // Here ']' meets 'a'.
        due.enter("C=#a[D]", 0);
        due.enter("D=", 0);
        shows(0, 5, 3, "a[0]0");
        due.enter("A=b[D]c[D]|c[D]#|d[B]", 0);
        shows(0, 5, 2, "b[]c[]");
        due.enter("A=c[D]a[D]|c[D]#|c[B]", 0);
        shows(0, 5, 2, "c[0]");
        due.enter("A=#a[D]|#*b[D]", 0);
        shows(0, 5, 1, "b[]");
        due.enter("E=b[D]", 0);
        shows(0, 4, 2, "0a[]");
    }

    private static void showLimit() {
        due.fresh("12 nodes");
        due.enter("A=a[B]a[B]a[B]", 0);
        due.enter("B=###", 0);
        shows(0, 5, 12, "a[000]a[000]a[000]");
        due.is("size()", due.h.size(), 12);
        due.enter("A=a[B]a[B]a[B]#", 0);
        due.is("show(0, 5)", due.h.show(0, 5), 13);
        due.is("the document stays", due.document(), "a[000]a[000]a[000]");
        due.is("valid(0)", due.h.valid(0), false);
        due.enter("A=d[C]d[C]d[C]d[C]d[C]d[C]d[C]d[C]d[C]d[C]d[C]d[C]", 0);
        due.enter("C=", 0);
        shows(0, 5, 12, "d[]d[]d[]d[]d[]d[]d[]d[]d[]d[]d[]d[]");
    }
}
