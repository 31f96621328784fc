/** Promise 4: enter. */
final class EnterTest {
    private static final Due due = new Due();

    public static void main(String[] args) {
        definitionStops();
        functionStops();
        resultStops();
        limits();
        together();
        replacing();
        refusedChangesNothing();
        Due.end();
    }

    private static void definitionStops() {
        due.fresh("definitions");
        due.enter("", 1);
        due.enter("G=", 1);
        due.enter("a[]", 1);
        due.enter(" A=", 1);
        due.enter("A", 2);
        due.enter("A:", 2);
        due.enter("A=", 0);
        due.enter("A= ", 3);
        due.enter("A=e[A]", 3);
        due.enter("A=a", 4);
        due.enter("A=aA", 4);
        due.enter("A=a[", 5);
        due.enter("A=a[a]", 5);
        due.enter("A=a[G]", 5);
        due.enter("A=a[]", 5);
        due.enter("A=a[A", 6);
        due.enter("A=a[AA]", 6);
        due.enter("A=a[A]", 0);
        due.enter("A=a[A]?*", 8);
        due.enter("A=#**", 5);
        due.enter("A=*", 3);
        due.enter("A=B*", 4);
        due.enter("A=BC", 4);
        due.enter("A=B#", 4);
        due.enter("A=#B|C", 0);
        due.enter("A=|", 0);
        due.enter("A=0", 3);
        due.enter("A=#/", 4);
    }

    private static void functionStops() {
        due.fresh("functions");
        due.enter("f", 2);
        due.enter("f=A", 2);
        due.enter("e:A>A/.-", 1);
        due.enter("i:A>A/.-", 1);
        due.enter("f:", 3);
        due.enter("f:a", 3);
        due.enter("f:A", 4);
        due.enter("f:A-", 4);
        due.enter("f:A>", 5);
        due.enter("f:A>G", 5);
        due.enter("f:A>A", 6);
        due.enter("f:A>A.", 6);
        due.enter("f:A>A/", 7);
        due.enter("f:A>A/-", 7);
        due.enter("f:A>A/A-", 7);
        due.enter("f:A>A/.", 8);
        due.enter("f:A>A/.A-", 8);
        due.enter("f:A>A/.-", 0);
        due.enter("f:A>A/.-/", 10);
        due.enter("f:A>A/#", 8);
        due.enter("f:A>A/#-", 8);
        due.enter("f:A>A/#A", 9);
        due.enter("f:A>A/#A-", 0);
        due.enter("f:A>A/a", 8);
        due.enter("f:A>A/a[", 9);
        due.enter("f:A>A/a[A", 10);
        due.enter("f:A>A/a[A]", 11);
        due.enter("f:A>A/a[A]-", 11);
        due.enter("f:A>A/a[A]A", 12);
        due.enter("f:A>A/a[A]A-", 0);
        due.enter("f:A>A/a[A]A*-", 12);
        due.enter("h:F>E/d[D]C-", 0);
    }

    private static void resultStops() {
        due.fresh("results");
        due.enter("f:A>A/.-#", 9);
        due.enter("f:A>A/.-x", 9);
        due.enter("f:A>A/.-y", 9);
        due.enter("f:A>A/.-f(y)", 9);
        due.enter("f:A>A/.-0a[1b[]]9", 0);
        due.enter("f:A>A/.-a[", 11);
        due.enter("f:A>A/.-a[/.-", 11);
        due.enter("f:A>A/.-a]", 10);
        due.enter("f:A>A/.-]", 9);
        due.enter("f:A>A/.-a[]]", 12);
        due.enter("f:A>A/#A-##y", 0);
        due.enter("f:A>A/#A-x", 10);
        due.enter("f:A>A/#A-g(x)", 12);
        due.enter("f:A>A/#A-g(y)", 0);
        due.enter("f:A>A/#A-g", 11);
        due.enter("f:A>A/#A-gy", 11);
        due.enter("f:A>A/#A-g(", 12);
        due.enter("f:A>A/#A-g()", 12);
        due.enter("f:A>A/#A-g(y", 13);
        due.enter("f:A>A/#A-g(y]", 13);
        due.enter("f:A>A/#A-e(y)", 10);
        due.enter("f:A>A/#A-y1", 11);
        due.enter("f:A>A/#A-yy", 11);
        due.enter("f:A>A/#A-g(y)g(y)", 14);
        due.enter("f:A>A/#A-a[y#]", 13);
        due.enter("f:A>A/#A-a[y/.-", 13);
        due.enter("f:A>A/#A-a[y]#b[g(y)]y", 0);
        due.enter("f:A>A/a[B]C-#", 13);
        due.enter("f:A>A/a[B]C-a[x]b[y]h(x)", 0);
        due.enter("f:A>A/a[B]C-A", 13);
        due.enter("f:A>A/#A-#/.-#", 14);
        due.enter("f:A>A/a[B]C-x/#A-x", 18);
    }

    private static void limits() {
        due.fresh("limits");
        due.enterAlone("A=################", 0);
        due.enterAlone("A=#################", 19);
        due.enterAlone("A=################|", 0);
        due.enterAlone("A=########|########|a[A]", 21);
        due.enterAlone("A=################A", 0);
        due.enterAlone("A=a[A]a[A]a[A]a[A]a[A]a[A]a[A]a[A]a[A]a[A]a[A]a[A]a[A]a[A]a[A]a[A]", 0);
        due.enterAlone("A=a[A]a[A]a[A]a[A]a[A]a[A]a[A]a[A]a[A]a[A]a[A]a[A]a[A]a[A]a[A]a[A]a", 67);
        due.enterAlone("A=|||||||", 0);
        due.enterAlone("A=||||||||", 10);
        due.enterAlone("A=A|B|C|D|E|F|#|", 0);
        due.enterAlone("A=A|B|C|D|E|F|#||", 17);
        due.enterAlone("f:A>A/.-/.-/.-/.-/.-/.-", 0);
        due.enterAlone("f:A>A/.-/.-/.-/.-/.-/.-/.-", 24);
        due.enterAlone("f:A>A/.-/.-/.-/.-/.-/.-/", 24);
        due.enterAlone("f:A>A/.-012345678901", 0);
        due.enterAlone("f:A>A/.-0123456789012", 21);
        due.enterAlone("f:A>A/#A-############y", 0);
        due.enterAlone("f:A>A/#A-############a[y]", 22);
        due.enterAlone("f:A>A/.-a[a[a[a[a[a[a[a[a[a[a[a[]]]]]]]]]]]]", 0);
        due.enterAlone("f:A>A/.-a[a[a[a[a[a[a[a[a[a[a[a[1]]]]]]]]]]]]", 33);
        due.enterAlone("f:A>A/.-012345678901/.-012345678901/#A-###########a[y]", 0);
    }

    private static void together() {
        due.fresh("16 items together");
        due.enter("A=########", 0);
        due.enter("B=#######", 0);
        due.enter("C=##", HedgeCheck.FULL);
        due.is("a refused definition is none", due.h.least(2), HedgeCheck.NONE);
        due.enter("C=#", 0);
        due.is("least(2)", due.h.least(2), 1);
        due.enter("D=", 0);
        due.enter("D=#", HedgeCheck.FULL);
        due.is("the old definition stays", due.h.least(3), 0);
        due.enter("A=#######", 0);
        due.enter("D=#", 0);
        due.enter("A=########", HedgeCheck.FULL);
        due.is("least(0)", due.h.least(0), 7);
        due.enter("A=#################", 19);
        due.enter("A=#######=", 10);
        due.enter("f:A>A/#A-############y", 0);
        due.fresh("one definition of 16 items in place of another");
        due.enter("A=################", 0);
        due.enter("A=a[B]a[B]a[B]a[B]a[B]a[B]a[B]a[B]########", 0);
        due.enter("B=#", HedgeCheck.FULL);
        due.enter("B=A|", 0);
    }

    private static void replacing() {
        due.fresh("in place of the old one");
        due.enter("A=#", 0);
        due.read("1", 0);
        due.is("valid(0)", due.h.valid(0), true);
        due.enter("A=##|###", 0);
        due.is("valid(0)", due.h.valid(0), false);
        due.is("least(0)", due.h.least(0), 2);
        due.enter("A=", 0);
        due.is("valid(0)", due.h.valid(0), false);
        due.is("least(0)", due.h.least(0), 0);
        due.enter("f:A>A/#A-1/#A-2/.-3", 0);
        due.is("run(0)", due.h.run(0), 1);
        due.is("value", due.value(), "1");
        due.enter("f:A>A/#A-7y", 0);
        due.is("run(0)", due.h.run(0), 1);
        due.is("value", due.value(), "7");
        due.is("useless(0)", due.h.useless(0), 1);
    }

    private static void refusedChangesNothing() {
        due.fresh("refused");
        due.enter("A=#|a[A]", 0);
        due.enter("f:A>A/#A-y/.-1/a[A]A-x", 0);
        due.enter("A=##|#]", 7);
        due.enter("f:B>C/.-2/.-(", 13);
        due.is("least(0)", due.h.least(0), 1);
        due.is("useless(0)", due.h.useless(0), 3);
        due.is("run(0)", due.h.run(0), 1);
        due.is("value", due.value(), "1");
        due.is("the pad stays when refused", due.h.enter(), 13);
        due.is("the document stays", due.h.size(), 0);
    }
}
