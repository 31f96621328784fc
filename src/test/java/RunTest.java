/** Promises 17 to 21: run, valueSize, value, valueValid, take. */
final class RunTest {
    private static final Due due = new Due();

    public static void main(String[] args) {
        missing();
        results();
        choosing();
        stuck();
        full();
        stuckOrFull();
        counting();
        values();
        taking();
        manyKinds();
        Due.end();
    }

    private static void runs(String document, int function, int want, String value) {
        due.read(document, 0);
        due.is("run(" + function + ") on " + document, due.h.run(function), want);
        due.is("value", due.value(), value);
        due.is("valueSize()", due.h.valueSize(), Oracle.sizeOf(value));
        due.is("the document stays", due.document(), document);
    }

    private static void missing() {
        due.fresh("missing");
        for (int function = -1; function <= 3; function++) {
            due.is("run", due.h.run(function), HedgeCheck.MISSING);
        }
        due.is("run of the least int", due.h.run(Integer.MIN_VALUE), HedgeCheck.MISSING);
        due.is("run of the largest int", due.h.run(Integer.MAX_VALUE), HedgeCheck.MISSING);
        due.enter("h:A>A/.-5", 0);
        due.is("run(2)", due.h.run(2), 1);
        due.is("run(1)", due.h.run(1), HedgeCheck.MISSING);
        due.is("value", due.value(), "5");
    }

    private static void results() {
        due.fresh("results");
        due.enter("A=a[A]A|b[A]A|#A|", 0);
        due.enter("f:B>C/.-/#A-#7#y/a[A]A-b[x]c[d[y]]x/b[A]A-f(y)", 0);
        runs("", 0, 1, "");
        runs("4a[]", 0, 1, "474a[]");
        runs("a[1b[]]2", 0, 1, "b[1b[]]c[d[2]]1b[]");
        runs("b[1]a[2]a[3]", 0, 2, "b[2]c[d[a[3]]]2");
        runs("b[b[]]b[]", 0, 3, "");
        due.enter("f:A>A/.-/#A-f(y)/a[A]A-a[f(y)]f(x)/b[A]A-a[b[f(x)]]f(y)", 0);
        runs("a[b[1]2]b[3a[]]", 0, 12, "a[a[b[a[]]]]a[b[]]");
    }

    private static void choosing() {
        due.fresh("the first clause that matches");
        due.enter("A=a[A]A|#A|", 0);
        due.enter("B=", 0);
        due.enter("C=#", 0);
        due.enter("f:A>A/a[B]B-1/a[C]A-2/a[A]B-3/a[A]A-4/#C-5/#A-6", 0);
        runs("a[]", 0, 1, "1");
        runs("a[]1", 0, 1, "4");
        runs("a[1]", 0, 1, "2");
        runs("a[1]1", 0, 1, "2");
        runs("a[11]", 0, 1, "3");
        runs("a[11]1", 0, 1, "4");
        runs("12", 0, 1, "5");
        runs("1", 0, 1, "6");
        runs("123", 0, 1, "6");
        runs("", 0, HedgeCheck.STUCK, "6");
        runs("b[]", 0, HedgeCheck.STUCK, "6");
        runs("a[b[]]", 0, HedgeCheck.STUCK, "6");
    }

    private static void stuck() {
        due.fresh("stuck");
        due.enter("A=a[A]A|", 0);
        due.enter("f:A>A/.-a[]/a[A]A-b[]g(x)", 0);
        runs("", 0, 1, "a[]");
        runs("a[]", 0, HedgeCheck.STUCK, "a[]");
        due.enter("g:A>A/a[A]A-", 0);
        runs("a[]", 0, HedgeCheck.STUCK, "a[]");
        runs("a[a[]]", 0, 2, "b[]");
        runs("1", 0, HedgeCheck.STUCK, "b[]");
    }

    private static void full() {
        due.fresh("full");
        due.enter("A=a[A]A|#A|", 0);
        due.enter("f:A>A/.-12345678/#A-#f(y)/a[A]A-a[f(x)]f(y)", 0);
        runs("000000000000", 0, 13, "00000000000012345678");
        due.enter("f:A>A/.-123456789/#A-#f(y)/a[A]A-a[f(x)]f(y)", 0);
        runs("000000000000", 0, HedgeCheck.FULL, "00000000000012345678");
        due.enter("g:A>A/#A-1a[y]b[y]c[]d[]", 0);
        runs("00000000", 1, 1, "1a[0000000]b[0000000]c[]d[]");
        runs("000000000", 1, HedgeCheck.FULL, "1a[0000000]b[0000000]c[]d[]");
        due.again().enter("A=a[A]A|#A|", 0);
        due.enter("g:A>A/#A-12345678#y", 0);
        runs("000000000000", 1, 1, "12345678000000000000");
        due.enter("g:A>A/#A-123456789#y", 0);
        runs("000000000000", 1, HedgeCheck.FULL, "12345678000000000000");
        due.enter("g:A>A/#A-123456789a[#y]", 0);
        runs("00000000000", 1, HedgeCheck.FULL, "12345678000000000000");
        runs("0000000000", 1, 1, "123456789a[0000000000]");
    }

    /** Left to right, and at once. */
    private static void stuckOrFull() {
        due.fresh("what comes first");
        due.enter("A=#A|", 0);
        due.enter("B=#*", 0);
        due.enter("g:A>A/#A-0y", 0);
        due.enter("f:A>A/#A-a[g(y)]12345678901", 0);
        runs("0", 0, HedgeCheck.STUCK, "");
        due.enter("f:A>A/#A-1a[y]b[y]c[h(y)]", 0);
        runs("0000000000", 0, HedgeCheck.FULL, "");
        runs("000", 0, HedgeCheck.STUCK, "");
        due.enter("f:A>A/#A-12345678901g(y)", 0);
        runs("00000000000", 0, HedgeCheck.FULL, "");
        runs("0", 0, HedgeCheck.STUCK, "");
        runs("0000000000", 0, 2, "12345678901000000000");
    }

    private static void counting() {
        due.fresh("counting");
        due.enter("A=a[A]A|", 0);
        due.enter("f:A>A/.-/a[A]A-f(x)", 0);
        runs("a[a[a[a[a[a[a[a[a[a[a[a[]]]]]]]]]]]]", 0, 13, "");
        due.enter("f:A>A/.-/a[A]A-f(y)", 0);
        runs("a[]a[]a[]a[]a[]a[]a[]a[]a[]a[]a[]a[]", 0, 13, "");
        due.enter("f:A>A/.-/a[A]A-a[f(y)]f(y)", 0);
        runs("a[]a[]a[]a[]", 0, 31, "a[a[a[a[]]a[]]a[a[]]a[]]a[a[a[]]a[]]a[a[]]a[]");
        runs("a[]a[]a[]a[]a[]", 0, HedgeCheck.FULL, "a[a[a[a[]]a[]]a[a[]]a[]]a[a[a[]]a[]]a[a[]]a[]");
        due.again().enter("A=a[A]A|", 0);
        due.enter("g:A>A/.-/a[A]A-b[b[b[b[b[h(x)]]]]]", 0);
        due.enter("h:A>A/.-1/a[A]A-c[c[c[c[c[g(x)]]]]]", 0);
        runs("a[a[a[]]]", 1, 4, "b[b[b[b[b[c[c[c[c[c[b[b[b[b[b[1]]]]]]]]]]]]]]]");
        runs("a[a[a[a[]]]]", 1, 5, "b[b[b[b[b[c[c[c[c[c[b[b[b[b[b[c[c[c[c[c[]]]]]]]]]]]]]]]]]]]]");
        runs("a[a[a[a[a[]]]]]", 1, HedgeCheck.FULL, "b[b[b[b[b[c[c[c[c[c[b[b[b[b[b[c[c[c[c[c[]]]]]]]]]]]]]]]]]]]]");
    }

    private static void values() {
        due.fresh("values");
        due.enter("A=#*", 0);
        due.enter("B=a[A]", 0);
        due.is("valueValid(0) of the first value", due.h.valueValid(0), true);
        due.is("valueValid(1)", due.h.valueValid(1), false);
        due.is("valueValid(2)", due.h.valueValid(2), false);
        due.enter("f:A>A/#A-a[#y]", 0);
        runs("123", 0, 1, "a[123]");
        due.is("valueValid(0)", due.h.valueValid(0), false);
        due.is("valueValid(1)", due.h.valueValid(1), true);
        due.is("valueValid(-1)", due.h.valueValid(-1), false);
        due.is("valueValid(6)", due.h.valueValid(6), false);
        due.is("value(-1)", due.h.value(-1), HedgeCheck.NONE);
        due.is("value(5)", due.h.value(5), ']');
        due.is("value(6)", due.h.value(6), HedgeCheck.NONE);
        due.is("value of the largest int", due.h.value(Integer.MAX_VALUE), HedgeCheck.NONE);
        due.is("value of the least int", due.h.value(Integer.MIN_VALUE), HedgeCheck.NONE);
        due.enter("A=", 0);
        due.is("by the definitions there are now", due.h.valueValid(1), false);
        due.is("the value stays", due.value(), "a[123]");
        due.is("valid(0) of the document", due.h.valid(0), false);
    }

    private static void taking() {
        due.fresh("take");
        due.read("1", 0);
        due.is("take() of the first value", due.h.take(), true);
        due.is("size()", due.h.size(), 0);
        due.enter("A=#*", 0);
        due.enter("f:A>A/#A-a[#y]", 0);
        runs("01234567890", 0, 1, "a[01234567890]");
        due.is("take() of 12 nodes", due.h.take(), true);
        due.is("document", due.document(), "a[01234567890]");
        due.is("value", due.value(), "a[01234567890]");
        runs("012345678901", 0, 1, "a[012345678901]");
        due.is("take() of 13 nodes", due.h.take(), false);
        due.is("the document stays", due.document(), "012345678901");
        due.read("12", 0);
        due.is("run(0)", due.h.run(0), 1);
        due.is("take()", due.h.take(), true);
        due.read("3", 0);
        due.is("the value stays when the document changes", due.value(), "a[12]");
        due.is("take()", due.h.take(), true);
        due.is("document", due.document(), "a[12]");
    }

    private static void manyKinds() {
        due.fresh("more than 40 kinds");
        due.enter("A=###A|", 0);
        due.enter("B=#############B|", 0);
        due.enter("f:C>C/#A-a[y]/#B-b[y]", 0);
        due.is("kinds()", due.h.kinds(), HedgeCheck.ROOM);
        runs("0123", 0, 1, "a[123]");
        runs("012", 0, HedgeCheck.STUCK, "a[123]");
        due.is("valueValid(0)", due.h.valueValid(0), false);
    }
}
