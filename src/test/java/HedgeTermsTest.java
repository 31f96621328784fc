/** Terms, HEDGES: the sentences that name a boundary. */
final class HedgeTermsTest {
    private static final Due due = new Due();

    public static void main(String[] args) {
        nodes();
        emptyHedge();
        sizes();
        texts();
        Due.end();
    }

    private static void nodes() {
        due.sentence("A NODE is a NUMBER 0 .. 9, or an ELEMENT, which has a LABEL a, b, c or d and a hedge as its CONTENT.");
        for (char c = 32; c <= 126; c++) {
            due.readAlone("" + c, c >= '0' && c <= '9' ? 0 : c >= 'a' && c <= 'd' ? 2 : 1);
            due.readAlone(c + "[]", c >= 'a' && c <= 'd' ? 0 : c >= '0' && c <= '9' ? 2 : 1);
        }
        due.readAlone("a[", 3);
        due.readAlone("a[0]", 0);
        due.readAlone("0[0]", 2);
    }

    private static void emptyHedge() {
        due.sentence("A HEDGE is a list of nodes, perhaps without any (the EMPTY hedge).");
        due.read("", 0);
        due.is("size()", due.h.size(), 0);
        due.is("text(0)", due.h.text(0), HedgeCheck.NONE);
        due.read("a[]", 0);
        due.is("an empty content", due.document(), "a[]");
        due.read("0", 0);
        due.is("size()", due.h.size(), 1);
        due.enter("A=", 0);
        due.valid("", 0, true);
        due.valid("0", 0, false);
    }

    private static void size(String hedge, int want) {
        due.again().read(hedge, 0);
        due.is("size() of " + hedge, due.h.size(), want);
    }

    private static void sizes() {
        due.sentence("Its SIZE is the number of all its nodes, those in contents at any depth included.");
        size("", 0);
        size("0", 1);
        size("a[]", 1);
        size("a[0]", 2);
        size("a[]0", 2);
        size("a[b[]]c[d[0]1]", 6);
        size("a[a[a[a[a[a[a[a[a[a[a[]]]]]]]]]]]", 11);
        size("a[a[a[a[a[a[a[a[a[a[a[a[]]]]]]]]]]]]", 12);
        size("a[a[a[a[a[a[a[a[a[a[a[9]]]]]]]]]]]", 12);
        size("012345678901", 12);
    }

    private static void texts() {
        due.sentence("Its TEXT is the texts of its nodes one after the other: of a number its digit; of an element its label, "
                + "'[', the text of its content, ']'.");
        String[] hedges = {"", "0", "9", "0123456789", "a[]", "d[]", "a[]b[]", "a[b[]]", "a[b[c[d[0]1]2]3]4", "0a[]1", "a[0]1",
            "a[01]", "a[a[a[a[a[a[a[a[a[a[a[a[]]]]]]]]]]]]", "d[]d[]d[]d[]d[]d[]d[]d[]d[]d[]d[]d[]"};
        for (String hedge : hedges) {
            due.again().read(hedge, 0);
            due.is("document", due.document(), hedge);
            due.is("text behind the last character of " + hedge, due.h.text(hedge.length()), HedgeCheck.NONE);
        }
    }
}
