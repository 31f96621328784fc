/** Promises 5 to 8: read, size, text, valid. */
final class DocumentTest {
    private static final Due due = new Due();

    public static void main(String[] args) {
        stops();
        texts();
        refusedChangesNothing();
        names();
        marks();
        tails();
        manyKinds();
        Due.end();
    }

    private static void stops() {
        due.fresh("stops");
        due.read("", 0);
        due.read("e", 1);
        due.read("]", 1);
        due.read("[", 1);
        due.read("A", 1);
        due.read("#", 1);
        due.read(" ", 1);
        due.read("a", 2);
        due.read("a]", 2);
        due.read("aa[]", 2);
        due.read("a[", 3);
        due.read("a[]]", 4);
        due.read("a[b[]", 6);
        due.read("a[b[]0", 7);
        due.read("0123456789", 0);
        due.read("012345678901", 0);
        due.read("0123456789012", 13);
        due.read("01234567890a[]", 0);
        due.read("01234567890a[b", 14);
        due.read("01234567890a[0]", 14);
        due.read("a[a[a[a[a[a[a[a[a[a[a[a[]]]]]]]]]]]]", 0);
        due.read("a[a[a[a[a[a[a[a[a[a[a[a[a[]]]]]]]]]]]]]", 25);
        due.read("a[]a[]a[]a[]a[]a[]a[]a[]a[]a[]a[]a[]", 0);
        due.read("a[]a[]a[]a[]a[]a[]a[]a[]a[]a[]a[]a[]d", 37);
        due.read("0:", 2);
        due.read("0/", 2);
    }

    private static void texts() {
        due.fresh("texts");
        String[] hedges = {"", "0", "9", "a[]", "d[c[b[a[]]]]", "a[1b[2]c[]]3", "a[b[]c[]]b[d[1]2]", "a[a[]]a[]0a[0]",
            "a[a[a[a[a[a[a[a[a[a[a[a[]]]]]]]]]]]]", "a[]b[]c[]d[]a[]b[]c[]d[]a[]b[]c[]d[]"};
        int[] sizes = {0, 1, 1, 1, 4, 6, 7, 6, 12, 12};
        for (int k = 0; k < hedges.length; k++) {
            due.read(hedges[k], 0);
            due.is("size() of " + hedges[k], due.h.size(), sizes[k]);
            due.is("document", due.document(), hedges[k]);
            due.is("text behind the end", due.h.text(hedges[k].length()), HedgeCheck.NONE);
            due.is("text(-1)", due.h.text(-1), HedgeCheck.NONE);
            due.is("text of the least int", due.h.text(Integer.MIN_VALUE), HedgeCheck.NONE);
            due.is("text of the largest int", due.h.text(Integer.MAX_VALUE), HedgeCheck.NONE);
        }
    }

    private static void refusedChangesNothing() {
        due.fresh("refused");
        due.read("a[1]2", 0);
        due.read("b[3", 4);
        due.is("the document stays", due.document(), "a[1]2");
        due.is("the pad stays", due.h.read(), 4);
        due.is("the pad stays open", due.h.type(']'), true);
        due.is("read()", due.h.read(), 0);
        due.is("document", due.document(), "b[3]");
        due.is("value", due.value(), "");
    }

    private static void names() {
        due.fresh("names");
        due.enter("A=", 0);
        due.valid("", 0, true);
        due.valid("0", 0, false);
        due.valid("", 1, false);
        due.valid("", -1, false);
        due.valid("", 6, false);
        due.valid("", Integer.MIN_VALUE, false);
        due.valid("", Integer.MAX_VALUE, false);
        due.enter("B=a[A]|b[B]|#", 0);
        due.valid("a[]", 1, true);
        due.valid("b[a[]]", 1, true);
        due.valid("b[b[b[7]]]", 1, true);
        due.valid("b[]", 1, false);
        due.valid("a[a[]]", 1, false);
        due.valid("a[]a[]", 1, false);
        due.valid("c[]", 1, false);
        due.valid("", 1, false);
        due.enter("C=a[D]", 0);
        due.valid("a[]", 2, false);
        due.enter("D=", 0);
        due.is("a definition that comes later counts", due.h.valid(2), true);
    }

    private static void marks() {
        due.fresh("marks");
        due.enter("A=#*", 0);
        due.enter("B=#?", 0);
        due.enter("C=a[A]*b[B]?#", 0);
        due.enter("D=#*#*##", 0);
        due.valid("", 0, true);
        due.valid("1234", 0, true);
        due.valid("12a[]", 0, false);
        due.valid("", 1, true);
        due.valid("1", 1, true);
        due.valid("12", 1, false);
        due.valid("1", 2, true);
        due.valid("a[12]a[]b[3]4", 2, true);
        due.valid("b[]4", 2, true);
        due.valid("b[]b[]4", 2, false);
        due.valid("b[12]4", 2, false);
        due.valid("b[]a[]4", 2, false);
        due.valid("a[]", 2, false);
        due.valid("1", 3, false);
        due.valid("12", 3, true);
        due.valid("12345", 3, true);
    }

    private static void tails() {
        due.fresh("tails");
        due.enter("A=A", 0);
        due.valid("", 0, false);
        due.enter("A=B|", 0);
        due.enter("B=A", 0);
        due.valid("", 0, true);
        due.valid("", 1, true);
        due.valid("0", 1, false);
        due.enter("C=#?C", 0);
        due.valid("", 2, false);
        due.valid("0", 2, false);
        due.enter("C=#?C|a[C]D", 0);
        due.enter("D=C|b[D]?", 0);
        due.valid("a[]", 2, false);
        due.valid("0", 2, false);
        due.valid("", 3, true);
        due.valid("b[]b[]", 3, false);
        due.enter("C=#?C|a[D]D", 0);
        due.valid("a[]", 2, true);
        due.valid("00a[b[]]0a[]b[]", 2, true);
        due.valid("00a[b[]]0a[]b[]b[]", 2, false);
        due.enter("E=#E", 0);
        due.valid("000", 4, false);
    }

    /** What belongs is told even when there are too many kinds to count. */
    private static void manyKinds() {
        due.fresh("more than 40 kinds");
        due.enter("A=###A|", 0);
        due.enter("B=#############B|", 0);
        due.is("kinds()", due.h.kinds(), HedgeCheck.ROOM);
        due.valid("012345", 0, true);
        due.valid("01234", 0, false);
        due.valid("012345", 1, false);
        due.valid("", 1, true);
    }
}
