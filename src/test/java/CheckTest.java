/** Promises 13 to 16: uncovered, useless, wrong, safe. */
final class CheckTest {
    private static final Due due = new Due();

    public static void main(String[] args) {
        missing();
        uncovered();
        firstNodesOnly();
        useless();
        wrongCalls();
        everyCall();
        wrongResults();
        emptyOutputs();
        sameHedgeTwice();
        safe();
        Due.end();
    }

    private static void missing() {
        due.fresh("missing");
        int[] functions = {-1, 0, 1, 2, 3, Integer.MIN_VALUE, Integer.MAX_VALUE};
        for (int function : functions) {
            due.is("uncovered", due.h.uncovered(function), HedgeCheck.MISSING);
            due.is("useless", due.h.useless(function), HedgeCheck.MISSING);
            due.is("wrong", due.h.wrong(function), HedgeCheck.MISSING);
            due.is("safe", due.h.safe(function), false);
        }
        due.enter("g:A>A/.-", 0);
        due.is("uncovered(1)", due.h.uncovered(1), HedgeCheck.NONE);
        due.is("useless(1)", due.h.useless(1), 1);
        due.is("wrong(1)", due.h.wrong(1), 0);
        due.is("safe(1)", due.h.safe(1), true);
        due.is("uncovered(0)", due.h.uncovered(0), HedgeCheck.MISSING);
    }

    private static void uncovered() {
        due.fresh("uncovered");
        due.enter("A=a[A]A|#A|", 0);
        due.enter("B=#*", 0);
        due.enter("f:A>A/.-", 0);
        due.is("uncovered(0)", due.h.uncovered(0), 1);
        due.enter("f:A>A/.-/#B-", 0);
        due.is("uncovered(0)", due.h.uncovered(0), 1);
        due.enter("f:A>A/.-/#B-/a[A]A-", 0);
        due.is("uncovered(0)", due.h.uncovered(0), 2);
        due.enter("f:A>A/.-/#A-/a[B]B-", 0);
        due.is("uncovered(0)", due.h.uncovered(0), 2);
        due.enter("f:A>A/.-/#A-/a[A]A-", 0);
        due.is("uncovered(0)", due.h.uncovered(0), HedgeCheck.NONE);
        due.enter("f:A>A/#A-/a[A]A-", 0);
        due.is("uncovered(0)", due.h.uncovered(0), 0);
        due.enter("f:C>A/.-", 0);
        due.is("no hedge belongs to the input", due.h.uncovered(0), HedgeCheck.NONE);
        due.enter("f:A>A/.-/#A-/b[A]A-/a[C]A-/a[A]C-", 0);
        due.is("uncovered(0)", due.h.uncovered(0), 1);
        due.enter("C=####", 0);
        due.enter("D=a[C]C", 0);
        due.enter("f:D>A/.-", 0);
        due.is("uncovered(0)", due.h.uncovered(0), 9);
    }

    /** The hedge's own kind does not tell which pattern matches it. */
    private static void firstNodesOnly() {
        due.fresh("a pattern sees first nodes");
        due.enter("A=a[B]*", 0);
        due.enter("B=#*", 0);
        due.enter("C=#", 0);
        due.enter("f:A>A/.-/a[C]A-", 0);
        due.is("uncovered(0)", due.h.uncovered(0), 1);
        due.enter("D=", 0);
        due.enter("f:A>A/.-/a[C]A-/a[D]A-", 0);
        due.is("uncovered(0)", due.h.uncovered(0), 3);
        due.enter("f:A>A/.-/a[C]A-/a[D]A-/a[B]D-", 0);
        due.is("uncovered(0)", due.h.uncovered(0), 4);
    }

    private static void useless() {
        due.fresh("useless");
        due.enter("A=a[A]A|#|", 0);
        due.enter("B=", 0);
        due.enter("f:A>A/.-/.-", 0);
        due.is("useless(0)", due.h.useless(0), 1);
        due.enter("f:A>A/.-/.-/b[A]A-/a[C]A-/a[A]A-/a[B]B-", 0);
        due.is("useless(0)", due.h.useless(0), 4);
        due.enter("f:A>A/a[B]B-/a[A]A-", 0);
        due.is("useless(0)", due.h.useless(0), 0);
        due.enter("C=a[A]A", 0);
        due.enter("f:A>A/#C-/#B-", 0);
        due.is("only # alone belongs", due.h.useless(0), 1);
        due.enter("f:D>A/.-/#A-/a[A]A-", 0);
        due.is("none belongs to D", due.h.useless(0), 3);
        due.enter("f:A>A/a[B]A-/a[C]A-/a[A]A-", 0);
        due.is("useless(0)", due.h.useless(0), 0);
        due.enter("D=#", 0);
        due.enter("f:A>A/a[B]A-/a[C]A-/a[D]A-/a[A]A-", 0);
        due.is("the three before take all", due.h.useless(0), 1);
        due.fresh("useless for all but few hedges");
        due.enter("A=d[A]A|d[E]|d[D]|d[C]", 0);
        due.enter("B=#?|d[D]#?#|d[D]B|E", 0);
        due.enter("C=d[C]|#A|d[D]d[E]", 0);
        due.enter("E=", 0);
        due.enter("h:A>C/d[C]C-h(x)", 0);
        due.is("useless(2)", due.h.useless(2), 0);
    }

    private static void wrongCalls() {
        due.fresh("wrong calls");
        due.enter("A=a[A]A|", 0);
        due.enter("B=#*", 0);
        due.enter("f:A>A/.-/a[A]A-g(x)", 0);
        due.is("not defined", due.h.wrong(0), 2);
        due.enter("f:A>A/.-/b[A]A-g(x)", 0);
        due.is("not defined, but useless", due.h.wrong(0), 0);
        due.enter("g:B>A/.-", 0);
        due.enter("f:A>A/.-/a[A]A-g(x)", 0);
        due.is("x does not always belong to B", due.h.wrong(0), 2);
        due.enter("f:A>A/.-/a[B]B-g(x)/a[A]A-f(y)", 0);
        due.is("x belongs to A and B", due.h.wrong(0), 0);
        due.enter("f:A>A/.-/a[B]A-g(y)/a[A]A-f(y)", 0);
        due.is("y need not belong to B", due.h.wrong(0), 2);
        due.enter("f:A>A/.-/a[A]A-a[a[a[g(y)]]]f(x)", 0);
        due.is("at any depth", due.h.wrong(0), 2);
        due.enter("f:A>A/a[B]B-a[]/.-0/a[A]A-h(y)", 0);
        due.is("the first of two", due.h.wrong(0), 2);
        due.enter("f:C>A/.-0/a[A]A-h(y)", 0);
        due.is("no input, nothing wrong", due.h.wrong(0), 0);
    }

    /** Each function applied to x and to y, by functions that take A alone. */
    private static void everyCall() {
        due.fresh("every call");
        due.enter("A=#", 0);
        due.enter("B=d[C]C", 0);
        due.enter("C=#*", 0);
        due.enter("D=d[A]C", 0);
        due.enter("E=d[C]A", 0);
        String others = "fgh";
        for (int letter = 0; letter < 3; letter++) {
            char called = others.charAt(letter);
            char caller = others.charAt((letter + 1) % 3);
            int number = (letter + 1) % 3;
            due.enter(called + ":A>F/.-", 0);
            for (String of : new String[] {"x", "y"}) {
                String clause = ">F/d[C]C-c[" + called + "(" + of + ")]";
                due.enter(caller + ":B" + clause, 0);
                due.is("wrong for B with " + clause, due.h.wrong(number), 1);
                due.enter(caller + ":D" + clause, 0);
                due.is("wrong for D with " + clause, due.h.wrong(number), of.equals("x") ? 0 : 1);
                due.enter(caller + ":E" + clause, 0);
                due.is("wrong for E with " + clause, due.h.wrong(number), of.equals("y") ? 0 : 1);
            }
        }
    }

    private static void wrongResults() {
        due.fresh("wrong results");
        due.enter("A=a[A]A|", 0);
        due.enter("B=a[B]a[B]B|", 0);
        due.enter("f:A>B/.-/a[A]A-a[f(x)]a[]f(y)", 0);
        due.is("wrong(0)", due.h.wrong(0), 0);
        due.enter("f:A>B/.-/a[A]A-a[f(x)]f(y)", 0);
        due.is("one more of an even number", due.h.wrong(0), 2);
        due.enter("f:A>B/.-0/a[A]A-a[f(x)]f(y)", 0);
        due.is("wrong(0)", due.h.wrong(0), 1);
        due.enter("f:A>B/.-/a[A]A-x", 0);
        due.is("x is any of A", due.h.wrong(0), 2);
        due.enter("f:A>B/.-/a[B]A-x/a[A]B-y/a[A]A-", 0);
        due.is("x and y are known to belong", due.h.wrong(0), 0);
        due.enter("f:A>B/.-/a[A]A-a[x]a[y]", 0);
        due.is("wrong(0)", due.h.wrong(0), 2);
        due.enter("f:B>A/.-/a[B]B-a[a[x]y]a[f(y)]f(x)", 0);
        due.is("wrong(0)", due.h.wrong(0), 0);
        due.enter("C=#*", 0);
        due.enter("f:C>C/.-12/#C-3##f(y)", 0);
        due.is("wrong(0)", due.h.wrong(0), 0);
        due.enter("f:C>C/.-12/#C-3#a[]f(y)", 0);
        due.is("wrong(0)", due.h.wrong(0), 2);
        due.enter("f:C>D/.-", 0);
        due.is("nothing belongs to D", due.h.wrong(0), 1);
    }

    private static void emptyOutputs() {
        due.fresh("an output that nothing belongs to");
        due.enter("A=a[A]A|", 0);
        due.enter("B=b[B]", 0);
        due.enter("g:A>B/.-b[]", 0);
        due.enter("f:A>C/.-/a[A]A-g(x)", 0);
        due.is("nothing belongs to C", due.h.wrong(0), 1);
        due.enter("f:A>C/a[A]A-0c[g(x)]d[y]x", 0);
        due.is("no hedge can be put for the call", due.h.wrong(0), 0);
        due.enter("f:A>C/a[A]A-0c[h(x)]g(x)", 0);
        due.is("but the other call is of none", due.h.wrong(0), 1);
        due.is("wrong(1)", due.h.wrong(1), 1);
    }

    private static void sameHedgeTwice() {
        due.fresh("x twice is one hedge, a call twice is two");
        due.enter("A=a[B]", 0);
        due.enter("B=#|", 0);
        due.enter("C=", 0);
        due.enter("D=a[E]a[E]|a[C]a[C]", 0);
        due.enter("E=#", 0);
        due.enter("f:A>D/a[B]C-a[x]a[x]", 0);
        due.is("wrong(0)", due.h.wrong(0), 0);
        due.enter("g:B>B/.-/#C-#", 0);
        due.enter("f:A>D/a[B]C-a[g(x)]a[g(x)]", 0);
        due.is("wrong(0)", due.h.wrong(0), 1);
        due.enter("F=b[B]B|", 0);
        due.enter("D=b[E]a[E]|b[C]a[C]|b[C]a[E]|", 0);
        due.enter("f:F>D/b[E]E-/b[B]B-b[x]a[y]/.-", 0);
        due.is("x and y by pairs", due.h.wrong(0), 2);
        due.enter("f:F>D/b[E]C-/b[B]B-b[x]a[y]/.-", 0);
        due.is("the one bad pair is taken before", due.h.wrong(0), 0);
    }

    private static void safe() {
        due.fresh("safe");
        due.enter("A=a[A]A|", 0);
        due.enter("B=#*", 0);
        due.enter("f:A>B/.-/a[A]A-g(x)", 0);
        due.is("g is not defined", due.h.safe(0), false);
        due.enter("g:A>B/.-1/a[A]A-h(y)", 0);
        due.is("h is not defined", due.h.safe(0), false);
        due.is("f itself has no wrong clause", due.h.wrong(0), 0);
        due.enter("h:A>B/.-1/a[A]A-f(y)", 0);
        due.is("safe(0)", due.h.safe(0), true);
        due.is("safe(1)", due.h.safe(1), true);
        due.is("safe(2)", due.h.safe(2), true);
        due.enter("h:A>B/a[A]A-f(y)", 0);
        due.is("h is not covered", due.h.safe(0), false);
        due.enter("h:A>B/.-a[]/a[A]A-3", 0);
        due.is("h is wrong", due.h.safe(0), false);
        due.is("h is wrong", due.h.safe(2), false);
        due.enter("h:A>B/.-4/a[A]A-3", 0);
        due.is("safe(2)", due.h.safe(2), true);
        due.is("safe(0)", due.h.safe(0), true);
        due.enter("h:A>A/.-a[]/a[A]A-a[x]y/a[B]B-", 0);
        due.is("useless clauses do no harm", due.h.safe(2), true);
        due.enter("f:A>A/.-/a[A]A-/b[A]A-g(x)", 0);
        due.enter("g:A>B/.-a[]", 0);
        due.is("a useless clause leads to g too", due.h.safe(0), false);
        due.is("safe(3)", due.h.safe(3), false);
        due.is("safe(-1)", due.h.safe(-1), false);
    }
}
