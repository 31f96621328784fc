/** Terms, KINDS and the check: the sentences that name a boundary. */
final class CheckTermsTest {
    private static final int NONE = HedgeCheck.NONE;
    private static final Due due = new Due();

    public static void main(String[] args) {
        sameKind();
        moreThanForty();
        covered();
        useless();
        wrongCall();
        wrongResult();
        leadsTo();
        safe();
        Due.end();
    }

    private static void kinds(String definition, int want) {
        due.enter(definition, 0);
        due.is("kinds() with " + definition, due.h.kinds(), want);
    }

    private static void sameKind() {
        due.sentence("Two hedges are of the same kind when both or neither are empty, and they belong to the same names and to the "
                + "same rests of all alternatives of all definitions.");
        due.is("the empty one and all others", due.h.kinds(), 2);
        kinds("A=A", 2);
        kinds("A=", 2);
        kinds("A=#*", 3);
        kinds("A=#*|a[A]", 4);
        kinds("A=#|a[B]", 3);
        kinds("B=", 4);
        kinds("C=a[B]", 4);
        kinds("D=a[B]", 4);
        kinds("D=#", 4);
        kinds("D=##", 5);
        kinds("F=b[B]", 6);
        due.again();
        kinds("A=#A|a[A]A|b[A]A|c[A]A|", 6);
        kinds("A=#A|a[A]A|b[A]A|c[A]A|d[A]A|", 6);
    }

    /** 40 kinds with C=##, one more with C=###. */
    private static void fortyKinds(String third) {
        due.again().enter("A=####A|", 0);
        due.enter("B=#########B|", 0);
        due.enter("C=" + third, 0);
        due.enter("f:A>A/.-/.-0", 0);
    }

    private static void moreThanForty() {
        due.sentence("When all hedges there are fall into more than 40 kinds, the calls that say so answer ROOM.");
        fortyKinds("#");
        due.is("kinds()", due.h.kinds(), 39);
        fortyKinds("##");
        due.is("kinds()", due.h.kinds(), 40);
        due.is("least(2)", due.h.least(2), 2);
        due.is("differ(0, 1)", due.h.differ(0, 1), 4);
        due.is("show(0, 1)", due.h.show(0, 1), 4);
        due.is("uncovered(0)", due.h.uncovered(0), 4);
        due.is("useless(0)", due.h.useless(0), 1);
        due.is("wrong(0)", due.h.wrong(0), 0);
        fortyKinds("###");
        due.is("kinds()", due.h.kinds(), HedgeCheck.ROOM);
        due.is("least(2)", due.h.least(2), HedgeCheck.ROOM);
        due.is("differ(0, 1)", due.h.differ(0, 1), HedgeCheck.ROOM);
        due.is("show(0, 1)", due.h.show(0, 1), HedgeCheck.ROOM);
        due.is("uncovered(0)", due.h.uncovered(0), HedgeCheck.ROOM);
        due.is("useless(0)", due.h.useless(0), HedgeCheck.ROOM);
        due.is("wrong(0)", due.h.wrong(0), HedgeCheck.ROOM);
        due.valid("000", 2, true);
        due.valid("0000", 0, true);
        due.valid("0000", 1, false);
        due.run(0, "", 1, "");
        due.enter("C=##", 0);
        due.is("kinds()", due.h.kinds(), 40);
        due.is("least(2)", due.h.least(2), 2);
    }

    private static void uncovered(String function, long want) {
        due.enter(function, 0);
        due.is("uncovered(0) with " + function, due.h.uncovered(0), want);
        due.is("safe(0) with " + function, due.h.safe(0), want == NONE);
    }

    private static void covered() {
        due.sentence("A function is COVERED when every hedge that belongs to its input has a clause that it chooses.");
        due.enter("A=#A|a[A]A|", 0);
        due.enter("B=#?", 0);
        due.enter("C=", 0);
        uncovered("f:A>A/.-/#A-/a[A]A-", NONE);
        uncovered("f:A>A/#A-/a[A]A-", 0);
        uncovered("f:A>A/.-/a[A]A-", 1);
        uncovered("f:A>A/.-/#A-", 1);
        uncovered("f:A>A/.-/#A-/a[C]A-", 2);
        uncovered("f:A>A/.-/#B-/a[A]A-", 2);
        uncovered("f:A>A/.-/#A-/a[B]A-/a[A]C-", 3);
        uncovered("f:A>A/.-/#A-/a[B]B-/a[A]C-/a[C]A-", 3);
        uncovered("f:B>A/.-/#C-", NONE);
        uncovered("f:B>A/.-", 1);
        uncovered("f:C>A/.-", NONE);
        uncovered("f:C>A/#A-", 0);
        due.is("safe(0)", due.h.safe(0), false);
        uncovered("f:D>A/#A-", NONE);
    }

    private static void useless(String function, int want) {
        due.enter(function, 0);
        due.is("useless(0) with " + function, due.h.useless(0), want);
    }

    private static void useless() {
        due.sentence("A clause is USELESS when no hedge that belongs to the input chooses it.");
        due.enter("A=#A|a[A]A|", 0);
        due.enter("B=#?", 0);
        due.enter("C=", 0);
        useless("f:A>A/.-", 0);
        useless("f:A>A/.-/.-", 1);
        useless("f:A>A/.-/.-/.-/.-/.-/.-", 5);
        useless("f:D>A/.-/.-/.-/.-/.-/.-", 6);
        useless("f:A>A/b[A]A-", 1);
        useless("f:A>A/a[D]A-/a[A]D-/#D-", 3);
        useless("f:A>A/#C-/#B-/#A-", 0);
        useless("f:A>A/#A-/#B-/#C-", 2);
        useless("f:B>A/.-/#A-/a[A]A-", 1);
        useless("f:B>A/#C-/#A-", 1);
        useless("f:A>A/a[C]C-/a[B]C-/a[C]B-/a[B]B-/a[A]A-", 0);
        useless("f:A>A/a[B]C-/a[C]C-/a[C]B-/a[B]B-/a[A]A-", 1);
    }

    private static void wrong(String function, int want) {
        due.enter(function, 0);
        due.is("wrong(0) with " + function, due.h.wrong(0), want);
    }

    private static void wrongCall() {
        due.sentence("A clause is WRONG when, for some hedge that belongs to the input and chooses it, there is a call in the result "
                + "(at any depth) of a function that is not defined, or whose input name the hedge that it is applied to does not "
                + "belong to;");
        due.enter("A=a[A]A|", 0);
        due.enter("B=a[C]|", 0);
        due.enter("C=", 0);
        wrong("f:A>A/.-/a[A]A-f(x)", 0);
        wrong("f:A>A/.-/a[A]A-g(x)", 2);
        wrong("f:A>A/.-/b[A]A-g(x)", 0);
        wrong("f:A>A/.-/a[A]A-/a[A]A-g(x)", 0);
        wrong("f:D>A/a[A]A-g(x)", 0);
        wrong("f:A>A/a[A]A-a[a[a[a[a[a[a[a[a[a[a[a[f(y)]]]]]]]]]]]]", 0);
        wrong("f:A>A/a[A]A-a[a[a[a[a[a[a[a[a[a[a[a[g(y)]]]]]]]]]]]]", 1);
        due.enter("g:B>A/.-", 0);
        wrong("f:A>A/a[B]A-g(x)", 0);
        wrong("f:A>A/a[B]A-g(y)", 1);
        wrong("f:A>A/a[A]B-g(x)", 1);
        due.again().enter("A=a[A]A|", 0);
        due.enter("B=a[C]|", 0);
        due.enter("C=", 0);
        due.enter("g:B>A/.-", 0);
        wrong("f:A>A/a[A]B-g(y)", 0);
        wrong("f:B>A/a[A]A-g(x)", 0);
        wrong("f:A>A/a[B]B-a[g(x)]g(y)", 0);
        wrong("f:A>A/a[B]A-a[g(x)]g(y)", 1);
        wrong("f:A>A/a[A]B-a[g(x)]g(y)", 1);
        due.enter("g:D>A/.-", 0);
        wrong("f:A>A/a[B]B-g(x)", 1);
        wrong("f:A>A/.-/b[B]B-g(x)", 0);
        everyCall();
    }

    /** Of all three functions, on x and on y: one that is not defined, one that takes it, one that does not. */
    private static void everyCall() {
        for (char called = 'f'; called <= 'h'; called++) {
            char caller = called == 'h' ? 'f' : (char) (called + 1);
            due.again().enter("A=a[A]A|", 0);
            due.enter("B=", 0);
            due.enter(caller + ":A>A/a[A]B-" + called + "(x)/a[B]A-" + called + "(y)", 0);
            due.is("wrong", due.h.wrong(caller - 'f'), 1);
            due.enter(called + ":A>A/.-", 0);
            due.is("wrong", due.h.wrong(caller - 'f'), 0);
            due.enter(called + ":B>A/.-", 0);
            due.is("wrong", due.h.wrong(caller - 'f'), 1);
            due.enter(caller + ":A>A/a[A]B-" + called + "(y)/a[B]A-" + called + "(x)", 0);
            due.is("wrong", due.h.wrong(caller - 'f'), 0);
            due.enter(caller + ":A>A/a[A]B-" + called + "(y)/a[B]A-" + called + "(y)", 0);
            due.is("wrong", due.h.wrong(caller - 'f'), 2);
        }
    }

    private static void wrongResult() {
        due.sentence("or when for some such hedge, and some hedges put in place of the calls, for each one a hedge that belongs to the "
                + "output of its function (each call by itself, the same call twice may get two), the result does not belong to the "
                + "output name.");
        due.enter("A=#?", 0);
        due.enter("B=a[A]", 0);
        due.enter("C=", 0);
        due.enter("D=a[C]a[C]|a[E]a[E]", 0);
        due.enter("E=#", 0);
        wrong("f:A>E/.-0/#C-#", 0);
        wrong("f:A>E/.-/#C-#", 1);
        wrong("f:A>E/.-0/#C-00", 2);
        wrong("f:A>F/.-/#C-", 1);
        wrong("f:B>D/a[A]C-a[x]a[x]", 0);
        due.enter("g:A>A/.-/#C-0", 0);
        wrong("f:B>D/a[A]C-a[x]a[g(x)]", 1);
        wrong("f:B>D/a[A]C-a[g(x)]a[g(x)]", 1);
        wrong("f:B>A/a[A]C-g(x)", 0);
        wrong("f:B>E/a[A]C-g(x)", 1);
        due.again().enter("A=#?", 0);
        due.enter("B=a[A]", 0);
        due.enter("C=", 0);
        due.enter("E=#", 0);
        due.enter("g:A>E/.-0/#C-0", 0);
        wrong("f:B>E/a[A]C-g(x)", 0);
        due.enter("D=a[C]a[C]|a[E]a[E]", 0);
        wrong("f:B>D/a[A]C-a[g(x)]a[g(x)]", 0);
        wrong("f:B>E/a[E]C-x/a[A]C-0", 0);
        wrong("f:B>E/a[C]C-x/a[A]C-0", 1);
        due.enter("g:A>F/.-", 0);
        wrong("f:B>F/a[A]C-0g(x)", 0);
        wrong("f:B>F/a[A]C-0", 1);
        wrong("f:C>F/a[A]C-0", 0);
        due.again().enter("A=#?", 0);
        due.enter("B=a[A]A", 0);
        due.enter("C=", 0);
        due.enter("D=a[C]a[C]|a[D]|", 0);
        wrong("f:B>A/a[A]A-x", 0);
        wrong("f:B>A/a[A]A-y", 0);
        wrong("f:B>C/a[A]A-x", 1);
        wrong("f:B>C/a[A]A-y", 1);
        wrong("f:B>C/a[C]A-x", 0);
        wrong("f:B>C/a[A]C-y", 0);
        wrong("f:C>D/.-a[]a[]", 0);
        wrong("f:C>D/.-a[]a[a[]]", 1);
        wrong("f:C>D/.-a[a[]]a[]", 1);
        wrong("f:C>D/.-a[a[a[a[a[a[a[a[a[a[a[a[]]]]]]]]]]]]", 0);
        wrong("f:C>C/.-a[a[a[a[a[a[a[a[a[a[a[a[]]]]]]]]]]]]", 1);
        wrong("f:C>D/.-a[a[a[a[a[a[a[a[a[a[a[0]]]]]]]]]]]", 1);
    }

    private static void leadsTo() {
        due.sentence("A function LEADS TO those that have a call in one of its results, and to those that they lead to.");
        due.enter("A=a[A]A|", 0);
        due.enter("f:A>A/.-/a[A]A-", 0);
        due.enter("h:A>A/.-0", 0);
        due.is("f leads to none", due.h.safe(0), true);
        due.is("h is wrong itself", due.h.safe(2), false);
        due.enter("f:A>A/.-/a[A]A-g(x)", 0);
        due.enter("g:A>A/.-/a[A]A-", 0);
        due.is("f leads to g alone", due.h.safe(0), true);
        due.enter("g:A>A/.-/a[A]A-a[h(y)]", 0);
        due.is("f leads to what g leads to", due.h.safe(0), false);
        due.is("wrong(0)", due.h.wrong(0), 0);
        due.enter("h:A>A/.-/a[A]A-f(x)", 0);
        due.is("f leads to itself", due.h.safe(0), true);
        due.enter("f:A>A/.-/a[A]A-/b[A]A-g(x)", 0);
        due.is("in a clause that is useless", due.h.safe(0), true);
        due.enter("g:A>A/.-0/a[A]A-", 0);
        due.is("in a clause that is useless", due.h.safe(0), false);
        due.enter("f:A>A/.-/a[A]A-", 0);
        due.is("f leads to g no more", due.h.safe(0), true);
        due.again().enter("A=a[A]A|", 0);
        due.enter("h:A>A/.-/a[A]A-g(x)", 0);
        due.enter("g:A>A/.-/a[A]A-f(x)", 0);
        due.enter("f:A>A/.-/a[A]A-", 0);
        due.is("h leads to f by g", due.h.safe(2), true);
        due.enter("f:A>A/.-", 0);
        due.is("h leads to f by g", due.h.safe(2), false);
        due.enter("g:A>A/.-/a[A]A-", 0);
        due.is("h leads to f no more", due.h.safe(2), true);
        for (char called = 'f'; called <= 'h'; called++) {
            leadsBy(called, "x");
            leadsBy(called, "y");
        }
    }

    private static void leadsBy(char called, String end) {
        char caller = called == 'h' ? 'f' : (char) (called + 1);
        due.again().enter("A=a[A]A|", 0);
        due.enter(caller + ":A>A/.-/a[A]A-a[" + called + "(" + end + ")]", 0);
        due.enter(called + ":A>A/.-/a[A]A-", 0);
        due.is("safe", due.h.safe(caller - 'f'), true);
        due.enter(called + ":A>A/.-", 0);
        due.is("wrong", due.h.wrong(caller - 'f'), 0);
        due.is("safe", due.h.safe(caller - 'f'), false);
    }

    private static void safe() {
        due.sentence("A function is SAFE when it and all that it leads to are defined, covered and without a wrong clause.");
        due.enter("A=a[A]A|", 0);
        due.is("not defined", due.h.safe(0), false);
        due.enter("f:A>A/.-/a[A]A-", 0);
        due.is("defined, covered, not wrong", due.h.safe(0), true);
        due.enter("f:A>A/a[A]A-", 0);
        due.is("not covered", due.h.safe(0), false);
        due.enter("f:A>A/.-0/a[A]A-", 0);
        due.is("wrong", due.h.safe(0), false);
        due.enter("f:A>A/.-/a[A]A-/.-0", 0);
        due.is("useless", due.h.safe(0), true);
        due.enter("f:A>A/.-/a[A]A-/b[A]A-g(x)", 0);
        due.is("leads to one that is not defined", due.h.safe(0), false);
        due.enter("g:A>A/.-", 0);
        due.is("leads to one that is not covered", due.h.safe(0), false);
        due.enter("g:A>A/.-/a[A]A-0", 0);
        due.is("leads to one that is wrong", due.h.safe(0), false);
        due.enter("g:A>A/.-/a[A]A-y", 0);
        due.is("leads to one that is safe", due.h.safe(0), true);
        due.enter("f:D>D/.-g", 9);
        due.enter("f:D>D/.-", 0);
        due.is("none belongs to the input", due.h.safe(0), true);
    }
}
