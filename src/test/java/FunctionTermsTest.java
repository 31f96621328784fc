/** Terms, FUNCTIONS: the sentences that name a boundary. */
final class FunctionTermsTest {
    private static final int STUCK = HedgeCheck.STUCK;
    private static final Due due = new Due();

    public static void main(String[] args) {
        three();
        clauses();
        clausesCountedFromOne();
        emptyPattern();
        labelPattern();
        numberPattern();
        chooses();
        result();
        parts();
        ends();
        Due.end();
    }

    private static void three() {
        due.sentence("There are three, f, g, h, in calls 0 .. 2.");
        for (char letter = 'e'; letter <= 'i'; letter++) {
            boolean known = letter >= 'f' && letter <= 'h';
            due.enterAlone(letter + ":A>A/.-", known ? 0 : 1);
            for (int k = -1; k <= 3; k++) {
                due.is("run(" + k + ")", due.h.run(k), known && k == letter - 'f' ? 1 : HedgeCheck.MISSING);
            }
            due.enterAlone("f:A>A/#A-" + letter + "(y)", known ? 0 : 10);
        }
    }

    private static void clauses() {
        due.sentence("A defined function has an INPUT name, an OUTPUT name, and 1 .. 6 CLAUSES (counted from 1), each with a "
                + "pattern and a result.");
        due.enterAlone("f:A>A", 6);
        due.is("run(0) without a clause", due.h.run(0), HedgeCheck.MISSING);
        StringBuilder text = new StringBuilder("f:A>A");
        for (int clauses = 1; clauses <= 6; clauses++) {
            text.append("/.-");
            due.enterAlone(text.toString(), 0);
            due.is("useless(0) of " + clauses + " that no hedge chooses", due.h.useless(0), clauses);
        }
        due.enterAlone(text + "/.-", 1 + text.length());
        due.is("run(0) with seven clauses", due.h.run(0), HedgeCheck.MISSING);
        due.enterAlone(text + "/", 1 + text.length());
    }

    private static void wrongClause(String clauses, int want) {
        due.again().enter("A=#A|a[A]A|b[A]A|c[A]A|d[A]A|", 0);
        due.enter("B=", 0);
        due.enter("f:A>B" + clauses, 0);
        due.is("wrong(0) with " + clauses, due.h.wrong(0), want);
    }

    private static void clausesCountedFromOne() {
        due.sentence("1 .. 6 CLAUSES (counted from 1)");
        wrongClause("/.-/#A-/a[A]A-/b[A]A-/c[A]A-/d[A]A-", 0);
        wrongClause("/.-0/#A-/a[A]A-/b[A]A-/c[A]A-/d[A]A-0", 1);
        wrongClause("/.-/#A-0/a[A]A-/b[A]A-/c[A]A-/d[A]A-0", 2);
        wrongClause("/.-/#A-/a[A]A-/b[A]A-/c[A]A-0/d[A]A-0", 5);
        wrongClause("/.-/#A-/a[A]A-/b[A]A-/c[A]A-/d[A]A-0", 6);
    }

    private static void emptyPattern() {
        due.sentence("A PATTERN is the empty one, which matches the empty hedge;");
        due.enter("A=", 0);
        due.enter("f:A>A/.-1", 0);
        due.run(0, "0", STUCK, "");
        due.run(0, "a[]", STUCK, "");
        due.run(0, "", 1, "1");
        due.enter("f:A>A/#A-2/a[A]A-3", 0);
        due.run(0, "", STUCK, "1");
        due.run(0, "0", 1, "2");
        due.run(0, "a[]", 1, "3");
    }

    private static void labelPattern() {
        due.sentence("or a label, a name X and a name Y, which matches a hedge whose first node is an element with that label "
                + "and a content x that belongs to X, when the hedge y of all that follows the first node belongs to Y;");
        due.enter("B=#", 0);
        due.enter("C=##", 0);
        due.enter("f:A>A/b[B]C-1", 0);
        due.run(0, "b[0]00", 1, "1");
        due.enter("f:A>A/b[B]C-2", 0);
        String[] others = {"", "0", "000", "b[]00", "b[00]00", "b[b[]]00", "b[0]", "b[0]0", "b[0]000", "b[0]b[]", "a[0]00",
            "c[0]00", "0b[0]00", "b[b[0]00]"};
        for (String other : others) {
            due.run(0, other, STUCK, "1");
        }
        due.again().enter("B=", 0);
        for (char label = 'a'; label <= 'd'; label++) {
            due.enter("f:A>A/" + label + "[B]B-1", 0);
            for (char other = 'a'; other <= 'd'; other++) {
                due.read(other + "[]", 0);
                due.is("run(0) on " + other + "[]", due.h.run(0), label == other ? 1 : STUCK);
            }
        }
    }

    private static void numberPattern() {
        due.sentence("or # and a name Y, which matches a hedge whose first node is a number, when the hedge y of all that "
                + "follows belongs to Y.");
        due.enter("C=##", 0);
        due.enter("f:A>A/#C-1", 0);
        due.run(0, "000", 1, "1");
        due.run(0, "999", 1, "1");
        due.enter("f:A>A/#C-2", 0);
        for (String other : new String[] {"", "0", "00", "0000", "00a[]", "0a[]0", "a[]00", "a[000]"}) {
            due.run(0, other, STUCK, "1");
        }
        due.enter("C=", 0);
        due.run(0, "0", 1, "2");
        due.run(0, "00", STUCK, "2");
    }

    private static void chooses() {
        due.sentence("A function applied to a hedge CHOOSES its first clause whose pattern matches.");
        due.enter("A=#*", 0);
        due.enter("B=", 0);
        due.enter("C=#", 0);
        due.enter("f:A>A/#B-1/#A-2/#C-3", 0);
        due.run(0, "0", 1, "1");
        due.run(0, "00", 1, "2");
        due.enter("f:A>A/#C-3/#A-2/#B-1", 0);
        due.run(0, "00", 1, "3");
        due.run(0, "0", 1, "2");
        due.enter("f:A>A/#C-1/a[A]A-2/b[A]A-3/c[A]A-4/d[A]A-5/.-6", 0);
        due.run(0, "", 1, "6");
        due.enter("f:A>A/.-0/#C-1/a[A]A-2/b[A]A-3/c[A]A-4/.-6", 0);
        due.run(0, "", 1, "0");
    }

    private static void result() {
        due.sentence("A RESULT is a list of PARTS, perhaps without any, and perhaps one END behind them.");
        due.enter("A=#*", 0);
        due.enter("f:A>A/#A-", 0);
        due.enter("g:A>A/#A-y", 0);
        due.run(1, "07", 1, "7");
        due.run(0, "07", 1, "");
        due.enter("g:A>A/#A-5", 0);
        due.run(1, "07", 1, "5");
        due.enter("g:A>A/#A-5y", 0);
        due.run(1, "07", 1, "57");
        due.enterAlone("f:A>A/#A-yy", 11);
        due.enterAlone("f:A>A/#A-y5", 11);
        due.enterAlone("f:A>A/#A-f(y)y", 14);
        due.enterAlone("f:A>A/#A-a[y]y", 0);
        due.enterAlone("f:A>A/#A-a[yy]", 13);
        due.enterAlone("f:A>A/#A-a[]", 0);
    }

    private static void parts() {
        due.sentence("A part is a digit; or # (the number of the pattern); or a label with a result in brackets.");
        due.enter("A=#*", 0);
        due.enter("f:A>A/#A-#a[#]", 0);
        for (char digit = '0'; digit <= '9'; digit++) {
            due.run(0, digit + "5", 1, digit + "a[" + digit + "]");
        }
        due.again();
        for (char digit = '0'; digit <= '9'; digit++) {
            due.enter("f:A>A/.-" + digit, 0);
            due.run(0, "", 1, "" + digit);
        }
        due.enter("f:A>A/.-a[]b[c[]d[0]]", 0);
        due.run(0, "", 1, "a[]b[c[]d[0]]");
        due.enterAlone("f:A>A/.-:", 9);
        due.enterAlone("f:A>A/.-`[]", 9);
        due.enterAlone("f:A>A/.-e[]", 9);
        due.enterAlone("f:A>A/.-a", 10);
        due.enterAlone("f:A>A/.-a[", 11);
        due.enterAlone("f:A>A/.-A", 9);
    }

    private static void ends() {
        due.sentence("An end is x or y, or one of the functions applied to x or to y: a CALL.");
        for (char end = 'w'; end <= 'z'; end++) {
            boolean known = end == 'x' || end == 'y';
            due.enterAlone("f:A>A/a[A]A-" + end, known ? 0 : 13);
            for (char called = 'f'; called <= 'h'; called++) {
                due.enterAlone("f:A>A/a[A]A-" + called + "(" + end + ")", known ? 0 : 15);
            }
        }
        due.again().enter("A=#*", 0);
        due.enter("g:A>A/#A-b[y]/.-c[]", 0);
        due.enter("f:A>A/a[A]A-x", 0);
        due.run(0, "a[12]345", 1, "12");
        due.enter("f:A>A/a[A]A-y", 0);
        due.run(0, "a[12]345", 1, "345");
        due.enter("f:A>A/a[A]A-g(x)", 0);
        due.run(0, "a[12]345", 2, "b[2]");
        due.run(0, "a[]345", 2, "c[]");
        due.enter("f:A>A/a[A]A-g(y)", 0);
        due.run(0, "a[12]345", 2, "b[45]");
        due.run(0, "a[12]", 2, "c[]");
    }
}
