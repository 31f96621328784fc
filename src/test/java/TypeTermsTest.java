/** Terms, TYPES: the sentences that name a boundary. */
final class TypeTermsTest {
    private static final Due due = new Due();

    public static void main(String[] args) {
        names();
        alternatives();
        items();
        rests();
        oneOfTheAlternatives();
        withoutDefinition();
        finitelyMany();
        neitherItemsNorTail();
        tailAlone();
        firstNode();
        star();
        anyMark();
        fits();
        Due.end();
    }

    private static void names() {
        due.sentence("There are six NAMES, A .. F, in calls 0 .. 5.");
        for (char name = '@'; name <= 'G'; name++) {
            boolean known = name >= 'A' && name <= 'F';
            due.enterAlone(name + "=", known ? 0 : 1);
            for (int k = -1; k <= 6; k++) {
                due.is("valid(" + k + ")", due.h.valid(k), known && k == name - 'A');
            }
            due.enterAlone("A=" + name, known ? 0 : 3);
            due.enterAlone("A=a[" + name + "]", known ? 0 : 5);
            due.enterAlone("f:" + name + ">A/.-", known ? 0 : 3);
            due.enterAlone("f:A>" + name + "/.-", known ? 0 : 5);
        }
    }

    private static void alternatives() {
        due.sentence("An alternative is a list of ITEMS, perhaps without any, and perhaps one name behind them, its TAIL.");
        due.enterAlone("A=", 0);
        due.is("least(0) without items", due.h.least(0), 0);
        due.enterAlone("A=#", 0);
        due.is("least(0) with an item", due.h.least(0), 1);
        due.enterAlone("A=B", 0);
        due.enter("B=##", 0);
        due.is("least(0) with a tail", due.h.least(0), 2);
        due.enterAlone("A=#B", 0);
        due.enter("B=##", 0);
        due.is("least(0) with both", due.h.least(0), 3);
        due.enterAlone("A=BB", 4);
        due.enterAlone("A=B#", 4);
        due.enterAlone("A=#B#", 5);
        due.enterAlone("A=|B|#|#B|", 0);
        due.enterAlone("A=|B|#|#BB|", 10);
    }

    private static void items() {
        due.sentence("An item is # or a label with a name in brackets, and may have a MARK, * or ?.");
        for (String item : new String[] {"#", "a[A]", "d[F]"}) {
            int stop = 1 + 2 + item.length();
            due.enterAlone("A=" + item, 0);
            due.enterAlone("A=" + item + "*", 0);
            due.enterAlone("A=" + item + "?", 0);
            due.enterAlone("A=" + item + "+", stop);
            due.enterAlone("A=" + item + "**", stop + 1);
            due.enterAlone("A=" + item + "*?", stop + 1);
            due.enterAlone("A=" + item + "?*", stop + 1);
            due.enterAlone("A=" + item + "??", stop + 1);
        }
        due.enterAlone("A=*", 3);
        due.enterAlone("A=?", 3);
        due.enterAlone("A=B*", 4);
        due.enterAlone("A=0", 3);
        due.enterAlone("A=`[A]", 3);
        due.enterAlone("A=e[A]", 3);
        due.enterAlone("A=a", 4);
        due.enterAlone("A=a*", 4);
        due.enterAlone("A=a[]", 5);
        due.enterAlone("A=a[A*]", 6);
        due.enterAlone("A=a[AB]", 6);
    }

    private static void kinds(String definition, int want) {
        due.enter(definition, 0);
        due.is("kinds() with " + definition, due.h.kinds(), want);
    }

    /** A hedge that belongs to no name, but to a rest, is of a kind of its own. */
    private static void rests() {
        due.sentence("A REST of an alternative is what it has from one of its items on (the whole one too), or what it has "
                + "behind its last item.");
        kinds("A=", 2);
        kinds("A=#", 3);
        kinds("A=##", 4);
        kinds("A=###", 5);
        kinds("A=a[B]", 2);
        kinds("A=a[B]#", 3);
        kinds("A=a[B]##", 4);
        kinds("A=#a[B]", 2);
        kinds("A=#a[C]", 2);
        kinds("C=", 4);
    }

    private static void oneOfTheAlternatives() {
        due.sentence("A hedge belongs to a name if it belongs to one of the alternatives of its definition.");
        String[] hedges = {"a[]", "b[]", "c[]", "d[]", "0", "00", "000", ""};
        due.enter("A=a[B]|b[B]|c[B]|d[B]|#|##|###|", 0);
        due.enter("B=", 0);
        for (String hedge : hedges) {
            due.valid(hedge, 0, true);
        }
        due.valid("0000", 0, false);
        due.valid("a[]b[]", 0, false);
        due.enter("A=a[B]|b[B]|c[B]|d[B]|#|##|###", 0);
        due.valid("", 0, false);
        due.valid("000", 0, true);
        due.enter("A=b[B]|c[B]|d[B]|#|##|###", 0);
        due.valid("a[]", 0, false);
        due.valid("b[]", 0, true);
    }

    private static void withoutDefinition() {
        due.sentence("(To a name without a definition none belongs.)");
        for (int name = 0; name < 6; name++) {
            due.valid("", name, false);
            due.valid("0", name, false);
            due.is("least", due.h.least(name), HedgeCheck.NONE);
        }
        due.again().enter("A=a[C]", 0);
        due.enter("B=#C", 0);
        due.valid("a[]", 0, false);
        due.valid("0", 1, false);
        due.enter("C=", 0);
        due.valid("a[]", 0, true);
        due.valid("0", 1, true);
        due.again().enter("f:A>A/a[B]A-1/#B-2/.-3", 0);
        due.run(0, "a[]", HedgeCheck.STUCK, "");
        due.run(0, "0", HedgeCheck.STUCK, "");
        due.run(0, "", 1, "3");
        due.enter("B=", 0);
        due.run(0, "0", 1, "2");
        due.run(0, "a[]", HedgeCheck.STUCK, "2");
        due.enter("A=", 0);
        due.run(0, "a[]", 1, "1");
    }

    private static void finitelyMany() {
        due.sentence("What BELONGS (in finitely many steps):");
        due.enter("A=A", 0);
        due.valid("", 0, false);
        due.enter("A=A|", 0);
        due.valid("", 0, true);
        due.enter("A=B", 0);
        due.enter("B=A", 0);
        due.valid("", 1, false);
        due.enter("B=A|", 0);
        due.valid("", 0, true);
        due.valid("", 1, true);
        due.enter("C=#C", 0);
        due.valid("", 2, false);
        due.valid("000000000000", 2, false);
        due.is("least(2)", due.h.least(2), HedgeCheck.NONE);
        due.enter("D=a[D]", 0);
        due.valid("a[a[a[]]]", 3, false);
        due.is("least(3)", due.h.least(3), HedgeCheck.NONE);
        due.enter("D=a[D]?", 0);
        due.valid("a[a[a[]]]", 3, true);
        due.enter("E=#*E", 0);
        due.valid("", 4, false);
        due.valid("00", 4, false);
        due.enter("E=#*E|a[A]", 0);
        due.valid("00", 4, false);
        due.valid("00a[]", 4, true);
    }

    private static void neitherItemsNorTail() {
        due.sentence("To a rest with neither items nor tail the empty hedge belongs, and no other one;");
        due.enter("A=", 0);
        due.valid("", 0, true);
        due.valid("0", 0, false);
        due.valid("a[]", 0, false);
        due.enter("A=#", 0);
        due.valid("0", 0, true);
        due.valid("00", 0, false);
        due.valid("0a[]", 0, false);
        due.enter("A=##?", 0);
        due.valid("00", 0, true);
        due.valid("000", 0, false);
    }

    private static void tailAlone() {
        due.sentence("to a rest without items, but with a tail, belongs what belongs to the tail.");
        due.enter("B=#|", 0);
        due.enter("A=B", 0);
        due.valid("", 0, true);
        due.valid("0", 0, true);
        due.valid("00", 0, false);
        due.valid("a[]", 0, false);
        due.enter("A=a[B]B", 0);
        due.valid("", 0, false);
        due.valid("a[]", 0, true);
        due.valid("a[]0", 0, true);
        due.valid("a[]00", 0, false);
        due.enter("A=F", 0);
        due.enter("F=E", 0);
        due.enter("E=D", 0);
        due.enter("D=C", 0);
        due.enter("C=B", 0);
        due.valid("0", 0, true);
        due.valid("00", 0, false);
    }

    private static void firstNode() {
        due.sentence("a hedge whose first node FITS the item, when what follows that node belongs to the rest behind the item,");
        due.enter("B=", 0);
        due.enter("A=#a[B]#", 0);
        due.valid("0a[]0", 0, true);
        due.valid("", 0, false);
        due.valid("0", 0, false);
        due.valid("0a[]", 0, false);
        due.valid("0a[]00", 0, false);
        due.valid("a[]0", 0, false);
        due.valid("00a[]0", 0, false);
        due.valid("0a[0]0", 0, false);
        due.valid("0a[]a[]", 0, false);
    }

    private static void star() {
        due.sentence("or, if the mark is *, when it belongs to this same rest;");
        due.enter("B=", 0);
        due.enter("A=#*a[B]", 0);
        due.valid("a[]", 0, true);
        due.valid("0a[]", 0, true);
        due.valid("00a[]", 0, true);
        due.valid("00000000000a[]", 0, true);
        due.valid("00000000000", 0, false);
        due.valid("0a[]0", 0, false);
        due.valid("0a[]a[]", 0, false);
        due.again().enter("B=", 0);
        due.enter("A=#?a[B]", 0);
        due.valid("a[]", 0, true);
        due.valid("0a[]", 0, true);
        due.valid("00a[]", 0, false);
        due.enter("A=#a[B]*", 0);
        due.valid("0", 0, true);
        due.valid("0a[]a[]a[]a[]a[]a[]a[]a[]a[]a[]a[]", 0, true);
        due.valid("00a[]", 0, false);
        due.enter("A=a[B]*#*a[B]*#", 0);
        due.valid("a[]0a[]0", 0, true);
        due.valid("0", 0, true);
        due.valid("a[]0a[]0a[]0", 0, false);
    }

    private static void anyMark() {
        due.sentence("and if there is a mark, every hedge that belongs to the rest behind the item.");
        due.enter("A=#", 0);
        due.valid("", 0, false);
        due.enter("A=#?", 0);
        due.valid("", 0, true);
        due.valid("0", 0, true);
        due.enter("A=#*", 0);
        due.valid("", 0, true);
        due.enter("B=", 0);
        due.enter("A=#?a[B]b[B]*#", 0);
        due.valid("a[]0", 0, true);
        due.valid("0a[]b[]b[]0", 0, true);
        due.valid("0b[]0", 0, false);
        due.valid("a[]", 0, false);
        due.enter("A=#?a[B]?b[B]*#?B", 0);
        due.valid("", 0, true);
        due.valid("b[]", 0, true);
        due.valid("00", 0, true);
        due.valid("000", 0, false);
    }

    private static void fits() {
        due.sentence("A number fits #; an element fits a label with a name when it has that label and its content belongs to "
                + "the name.");
        due.enter("A=#", 0);
        for (char digit = '0'; digit <= '9'; digit++) {
            due.valid("" + digit, 0, true);
        }
        due.valid("a[]", 0, false);
        due.enter("B=#", 0);
        for (char label = 'a'; label <= 'd'; label++) {
            due.enter("A=" + label + "[B]", 0);
            for (char other = 'a'; other <= 'd'; other++) {
                due.valid(other + "[0]", 0, other == label);
            }
            due.valid(label + "[]", 0, false);
            due.valid(label + "[00]", 0, false);
            due.valid("0", 0, false);
        }
    }
}
