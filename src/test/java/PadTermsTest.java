/** Terms, THE PAD and the STOP: the sentences that name a boundary. */
final class PadTermsTest {
    private static final String SIXTEEN = "################";
    private static final Due due = new Due();

    public static void main(String[] args) {
        pad();
        nothingBetween();
        definition();
        alternative();
        item();
        eightAlternatives();
        sixteenItems();
        function();
        patterns();
        result();
        parts();
        ends();
        calls();
        twelveParts();
        twelveNodes();
        firstThatCannotStand();
        tooMany();
        endOfThePad();
        stop();
        Due.end();
    }

    private static void pad() {
        due.sentence("THE PAD is a list of at most 80 characters with codes 32 .. 126.");
        for (int code : new int[] {0, 31, 32, 126, 127, 128, 160, 255, 256, 256 + 65, 65535}) {
            due.is("type of code " + code, due.h.type((char) code), code >= 32 && code <= 126);
        }
        due.again();
        for (int k = 1; k <= 80; k++) {
            due.is("type of character " + k, due.h.type(k == 79 ? (char) 32 : (char) 126), true);
        }
        due.is("type of character 81", due.h.type('a'), false);
        due.h.clear();
        due.is("type of character 1", due.h.type('a'), true);
    }

    private static void nothingBetween() {
        due.sentence("What can be entered from it, with nothing between the characters:");
        String definition = "A=a[B]*#?C|b[D]|";
        String function = "f:A>B/a[C]D-1a[g(x)]y/#E-#h(y)/.-2";
        String hedge = "a[0b[]]c[1]2";
        due.enterAlone(definition, 0);
        for (int k = 0; k <= definition.length(); k++) {
            due.enterAlone(definition.substring(0, k) + " " + definition.substring(k), 1 + k);
        }
        due.enterAlone(function, 0);
        for (int k = 0; k <= function.length(); k++) {
            due.enterAlone(function.substring(0, k) + " " + function.substring(k), 1 + k);
        }
        due.readAlone(hedge, 0);
        for (int k = 0; k <= hedge.length(); k++) {
            due.readAlone(hedge.substring(0, k) + " " + hedge.substring(k), 1 + k);
        }
    }

    private static void definition() {
        due.sentence("A definition: its name, =, the alternatives with | between every two.");
        due.enterAlone("A", 2);
        due.enterAlone("A|", 2);
        due.enterAlone("=", 1);
        due.enterAlone("A=", 0);
        due.enterAlone("A==", 3);
        due.enterAlone("A=#", 0);
        due.is("one alternative: least(0)", due.h.least(0), 1);
        due.enterAlone("A=#|", 0);
        due.is("two alternatives: least(0)", due.h.least(0), 0);
        due.enterAlone("A=|#", 0);
        due.is("two alternatives: least(0)", due.h.least(0), 0);
        due.enterAlone("A=##|#", 0);
        due.is("two alternatives: least(0)", due.h.least(0), 1);
        due.enterAlone("A=B|C", 0);
        due.enterAlone("A=BC", 4);
        due.enterAlone("A=#/#", 4);
    }

    private static void alternative() {
        due.sentence("An alternative: its items, then its tail.");
        due.enterAlone("A=", 0);
        due.enterAlone("A=#", 0);
        due.enterAlone("A=##", 0);
        due.enterAlone("A=##B", 0);
        due.enterAlone("A=B", 0);
        due.enterAlone("A=B#", 4);
        due.enterAlone("A=#B#", 5);
        due.enterAlone("A=#Ba[A]", 5);
        due.enterAlone("A=#BB", 5);
        due.enterAlone("A=#B|#", 0);
    }

    private static void item() {
        due.sentence("An item: #, or the label, [, the name, ]; then its mark.");
        due.enterAlone("A=#", 0);
        due.enterAlone("A=#*", 0);
        due.enterAlone("A=*#", 3);
        due.enterAlone("A=#[A]", 4);
        due.enterAlone("A=a", 4);
        due.enterAlone("A=a(A)", 4);
        due.enterAlone("A=a[", 5);
        due.enterAlone("A=a[a[A]]", 5);
        due.enterAlone("A=a[#]", 5);
        due.enterAlone("A=a[A", 6);
        due.enterAlone("A=a[A)", 6);
        due.enterAlone("A=a[A?]", 6);
        due.enterAlone("A=a[A]", 0);
        due.enterAlone("A=a[A]?", 0);
        due.enterAlone("A=a[A]??", 8);
        due.enterAlone("A=a?[A]", 4);
    }

    private static void eightAlternatives() {
        due.sentence("A definition has at most 8 alternatives");
        due.enterAlone("A=|||||||", 0);
        due.enterAlone("A=||||||||", 10);
        due.enterAlone("A=||||||||#", 10);
        due.enterAlone("A=#|#|#|#|#|#|#", 0);
        due.enterAlone("A=#|#|#|#|#|#|#|", 0);
        due.enterAlone("A=#|#|#|#|#|#|#|#", 0);
        due.enterAlone("A=#|#|#|#|#|#|#|#|", 18);
        due.enterAlone("A=#|#|#|#|#|#|#|#|#", 18);
        due.enterAlone("A=A|B|C|D|E|F|A|a[B]*F", 0);
        due.enterAlone("A=A|B|C|D|E|F|A|a[B]*F|", 23);
        due.again().enter("A=|||||||", 0);
        due.enter("B=|||||||", 0);
        due.enter("A=||||||||", 10);
    }

    private static void sixteenItems() {
        due.sentence("and at most 16 items.");
        String labels = "A=a[A]b[B]c[C]d[D]a[A]b[B]c[C]d[D]a[A]b[B]c[C]d[D]a[A]b[B]c[C]";
        due.enterAlone("A=" + SIXTEEN.substring(1), 0);
        due.enterAlone("A=" + SIXTEEN, 0);
        due.enterAlone("A=" + SIXTEEN + "#", 19);
        due.enterAlone("A=" + SIXTEEN + "A", 0);
        due.enterAlone("A=" + SIXTEEN + "|||||||", 0);
        due.enterAlone(labels + "d[D]", 0);
        due.enterAlone(labels + "d[D]?", 0);
        due.enterAlone(labels + "d[D]a[A]", 67);
        due.enterAlone("A=####|####|####|####", 0);
        due.enterAlone("A=####|####|####|####|", 0);
        due.enterAlone("A=####|####|####|####|#", 23);
        due.enterAlone("A=####|####|####|####|a[A]", 23);
        due.enterAlone("A=#*#*#*#*#*#*#*#*#*#*#*#*#*#*#*#*", 0);
        due.enterAlone("A=#*#*#*#*#*#*#*#*#*#*#*#*#*#*#*#*#*", 35);
    }

    private static void function() {
        due.sentence("A function: its letter, :, the input name, >, the output name, then for each clause: /, the pattern, -, "
                + "the result.");
        String text = "f:A>B/a[C]D-";
        for (int k = 0; k < text.length(); k++) {
            due.enterAlone(text.substring(0, k), 1 + k);
            due.enterAlone(text.substring(0, k) + "~", 1 + k);
        }
        due.enterAlone(text, 0);
        due.enterAlone("f=A>B/.-", 2);
        due.enterAlone("f:A-B/.-", 4);
        due.enterAlone("f:A>B.-", 6);
        due.enterAlone("f:A>B/.", 8);
        due.enterAlone("f:A>B/./.-", 8);
        due.enterAlone("f:A>B/.-", 0);
        due.enterAlone("f:A>B/.-/", 10);
        due.enterAlone("f:A>B/.-/.", 11);
        due.enterAlone("f:A>B/.-/.-", 0);
        due.enterAlone("f:A>B/.-|.-", 9);
    }

    private static void patterns() {
        due.sentence("Patterns are written as . or as the label, [, X, ], Y or as #, Y.");
        due.enterAlone("f:A>A/.-", 0);
        due.enterAlone("f:A>A/.A-", 8);
        due.enterAlone("f:A>A/-", 7);
        due.enterAlone("f:A>A/#A-", 0);
        due.enterAlone("f:A>A/#F-", 0);
        due.enterAlone("f:A>A/#-", 8);
        due.enterAlone("f:A>A/#G-", 8);
        due.enterAlone("f:A>A/#@-", 8);
        due.enterAlone("f:A>A/#AA-", 9);
        due.enterAlone("f:A>A/#[A]A-", 8);
        due.enterAlone("f:A>A/0A-", 7);
        due.enterAlone("f:A>A/a[A]A-", 0);
        due.enterAlone("f:A>A/d[F]F-", 0);
        due.enterAlone("f:A>A/`[A]A-", 7);
        due.enterAlone("f:A>A/e[A]A-", 7);
        due.enterAlone("f:A>A/aA-", 8);
        due.enterAlone("f:A>A/a-", 8);
        due.enterAlone("f:A>A/a[-", 9);
        due.enterAlone("f:A>A/a[A-", 10);
        due.enterAlone("f:A>A/a[]A-", 9);
        due.enterAlone("f:A>A/a[G]A-", 9);
        due.enterAlone("f:A>A/a[AA-", 10);
        due.enterAlone("f:A>A/a[A]-", 11);
        due.enterAlone("f:A>A/a[A]G-", 11);
        due.enterAlone("f:A>A/a[A]AA-", 12);
        due.enterAlone("f:A>A/a[A]*A-", 11);
    }

    private static void result() {
        due.sentence("A result: its parts, then its end.");
        due.enterAlone("f:A>A/#A-", 0);
        due.enterAlone("f:A>A/#A-1", 0);
        due.enterAlone("f:A>A/#A-12", 0);
        due.enterAlone("f:A>A/#A-12y", 0);
        due.enterAlone("f:A>A/#A-y", 0);
        due.enterAlone("f:A>A/#A-y1", 11);
        due.enterAlone("f:A>A/#A-y#", 11);
        due.enterAlone("f:A>A/#A-ya[]", 11);
        due.enterAlone("f:A>A/#A-yy", 11);
        due.enterAlone("f:A>A/#A-yf(y)", 11);
        due.enterAlone("f:A>A/#A-f(y)1", 14);
        due.enterAlone("f:A>A/#A-f(y)f(y)", 14);
        due.enterAlone("f:A>A/#A-a[y]1", 0);
        due.enterAlone("f:A>A/#A-a[y1]", 13);
        due.enterAlone("f:A>A/#A-a[1y]y", 0);
        due.enterAlone("f:A>A/#A-y/#A-y", 0);
    }

    private static void parts() {
        due.sentence("Parts: the digit; #, only where the pattern is one with #; the label, [, the result, ].");
        due.enterAlone("f:A>A/#A-#", 0);
        due.enterAlone("f:A>A/#A-a[b[#]]#", 0);
        due.enterAlone("f:A>A/.-#", 9);
        due.enterAlone("f:A>A/.-a[b[#]]", 13);
        due.enterAlone("f:A>A/a[A]A-#", 13);
        due.enterAlone("f:A>A/a[A]A-a[#]", 15);
        due.enterAlone("f:A>A/#A-#/.-#", 14);
        due.enterAlone("f:A>A/#A-#/a[A]A-#", 18);
        due.enterAlone("f:A>A/.-/#A-#", 0);
        due.enterAlone("f:A>A/.-0", 0);
        due.enterAlone("f:A>A/.-9", 0);
        due.enterAlone("f:A>A/.-:", 9);
        due.enterAlone("f:A>A/.-a[]", 0);
        due.enterAlone("f:A>A/.-a]", 10);
        due.enterAlone("f:A>A/.-]", 9);
        due.enterAlone("f:A>A/.-a[]]", 12);
        due.enterAlone("f:A>A/.-a[/.-", 11);
    }

    private static void ends() {
        due.sentence("Ends: x, only where the pattern has an x; y, only where it has a y;");
        due.enterAlone("f:A>A/a[A]A-x", 0);
        due.enterAlone("f:A>A/a[A]A-y", 0);
        due.enterAlone("f:A>A/a[A]A-a[x]b[y]", 0);
        due.enterAlone("f:A>A/#A-y", 0);
        due.enterAlone("f:A>A/#A-x", 10);
        due.enterAlone("f:A>A/#A-a[x]", 12);
        due.enterAlone("f:A>A/.-x", 9);
        due.enterAlone("f:A>A/.-y", 9);
        due.enterAlone("f:A>A/.-a[y]", 11);
        due.enterAlone("f:A>A/a[A]A-x/#A-x", 18);
        due.enterAlone("f:A>A/a[A]A-y/.-y", 17);
    }

    private static void calls() {
        due.sentence("the function's letter, only where the pattern has a y, then (, x or y (where an end x or y may stand), ).");
        due.enterAlone("f:A>A/a[A]A-f(x)", 0);
        due.enterAlone("f:A>A/a[A]A-f(y)", 0);
        due.enterAlone("f:A>A/#A-f(y)", 0);
        due.enterAlone("f:A>A/#A-a[h(y)]", 0);
        due.enterAlone("f:A>A/#A-f(x)", 12);
        due.enterAlone("f:A>A/#A-a[h(x)]", 14);
        due.enterAlone("f:A>A/.-f(y)", 9);
        due.enterAlone("f:A>A/.-f(x)", 9);
        due.enterAlone("f:A>A/.-a[f(y)]", 11);
        due.enterAlone("f:A>A/a[A]A-f", 14);
        due.enterAlone("f:A>A/a[A]A-fx", 14);
        due.enterAlone("f:A>A/a[A]A-f[x]", 14);
        due.enterAlone("f:A>A/a[A]A-f(", 15);
        due.enterAlone("f:A>A/a[A]A-f()", 15);
        due.enterAlone("f:A>A/a[A]A-f(1)", 15);
        due.enterAlone("f:A>A/a[A]A-f(x", 16);
        due.enterAlone("f:A>A/a[A]A-f(xy)", 16);
        due.enterAlone("f:A>A/a[A]A-f(x)1", 17);
        due.enterAlone("f:A>A/a[A]A-f(x)x", 17);
    }

    private static void twelveParts() {
        due.sentence("A clause has at most 12 parts, those inside brackets included.");
        due.enterAlone("f:A>A/.-01234567890", 0);
        due.enterAlone("f:A>A/.-012345678901", 0);
        due.enterAlone("f:A>A/.-0123456789012", 21);
        due.enterAlone("f:A>A/.-01234567890a[]", 0);
        due.enterAlone("f:A>A/.-01234567890a[0]", 22);
        due.enterAlone("f:A>A/.-012345678901a[]", 21);
        due.enterAlone("f:A>A/.-a[a[a[a[a[a[a[a[a[a[a[a[]]]]]]]]]]]]", 0);
        due.enterAlone("f:A>A/.-a[a[a[a[a[a[a[a[a[a[a[a[a[]]]]]]]]]]]]]", 33);
        due.enterAlone("f:A>A/.-a[a[a[a[a[a[a[a[a[a[a[a[]]]]]]]]]]]]0", 45);
        due.enterAlone("f:A>A/#A-############", 0);
        due.enterAlone("f:A>A/#A-#############", 22);
        due.enterAlone("f:A>A/#A-############y", 0);
        due.enterAlone("f:A>A/#A-############f(y)", 0);
        due.enterAlone("f:A>A/#A-a[y]a[y]a[y]a[y]a[y]a[y]a[y]a[y]a[y]a[y]a[y]a[f(y)]g(y)", 0);
        due.enterAlone("f:A>A/#A-a[y]a[y]a[y]a[y]a[y]a[y]a[y]a[y]a[y]a[y]a[y]a[f(y)]#", 61);
        due.enterAlone("f:A>A/.-012345678901/.-012345678901", 0);
        due.enterAlone("f:A>A/.-012345678901/.-0123456789012", 36);
    }

    private static void twelveNodes() {
        due.sentence("A hedge: its text, of at most 12 nodes.");
        due.readAlone("01234567890", 0);
        due.readAlone("012345678901", 0);
        due.readAlone("0123456789012", 13);
        due.readAlone("01234567890a[]", 0);
        due.readAlone("012345678901a[]", 13);
        due.readAlone("a[01234567890]", 0);
        due.readAlone("a[012345678901]", 14);
        due.readAlone("a[a[a[a[a[a[a[a[a[a[a[a[]]]]]]]]]]]]", 0);
        due.readAlone("a[a[a[a[a[a[a[a[a[a[a[a[a[]]]]]]]]]]]]]", 25);
        due.readAlone("a[a[a[a[a[a[a[a[a[a[a[a[]]]]]]]]]]]]0", 37);
        due.readAlone("a[]b[]c[]d[]a[]b[]c[]d[]a[]b[]c[]d[]", 0);
        due.readAlone("a[]b[]c[]d[]a[]b[]c[]d[]a[]b[]c[]d[]a[]", 37);
    }

    private static void firstThatCannotStand() {
        due.sentence("Reading goes from left to right and stops at the first character that cannot stand where it stands after "
                + "those before it by these rules and limits");
        due.enterAlone("~A=", 1);
        due.enterAlone("A=#~|~", 4);
        due.enterAlone("A=#|#~", 6);
        due.enterAlone("A=#a[B~", 7);
        due.enterAlone("f:A>A/.-~/~", 9);
        due.enterAlone("f:A>A/.-x/.-y", 9);
        due.enterAlone("f:A>A/.-0/.-y", 13);
        due.readAlone("a[]~~", 4);
        due.readAlone("]a[", 1);
        due.readAlone("a[]]a", 4);
    }

    private static void tooMany() {
        due.sentence("(the first character of an item, part or node too many, and the | or / before an alternative or clause too "
                + "many, cannot stand either)");
        due.enterAlone("A=" + SIXTEEN + "a", 19);
        due.enterAlone("A=" + SIXTEEN + "a[~", 19);
        due.enterAlone("A=" + SIXTEEN + "~", 19);
        due.enterAlone("A=" + SIXTEEN + "|a[A]", 20);
        due.enterAlone("f:A>A/.-012345678901a", 21);
        due.enterAlone("f:A>A/.-012345678901a[~", 21);
        due.enterAlone("f:A>A/#A-#############", 22);
        due.readAlone("012345678901a", 13);
        due.readAlone("012345678901a[~", 13);
        due.readAlone("a[01234567890b[]]", 14);
        due.enterAlone("A=||||||||", 10);
        due.enterAlone("A=||||||||~", 10);
        due.enterAlone("A=|||||||~", 10);
        due.enterAlone("f:A>A/.-/.-/.-/.-/.-/.-/", 24);
        due.enterAlone("f:A>A/.-/.-/.-/.-/.-/.-/~", 24);
        due.enterAlone("f:A>A/.-/.-/.-/.-/.-/.-~", 24);
    }

    private static void endOfThePad() {
        due.sentence("or at the end of the pad, if more characters must follow.");
        String definition = "A=a[B]*#C|b[D]";
        boolean[] wholeDefinition = new boolean[definition.length() + 1];
        for (int k : new int[] {2, 6, 7, 8, 9, 10, 14}) {
            wholeDefinition[k] = true;
        }
        for (int k = 0; k <= definition.length(); k++) {
            due.enterAlone(definition.substring(0, k), wholeDefinition[k] ? 0 : 1 + k);
        }
        String function = "h:A>B/a[C]D-1a[g(x)]y/#E-#/.-2";
        boolean[] wholeFunction = new boolean[function.length() + 1];
        for (int k : new int[] {12, 13, 20, 21, 25, 26, 29, 30}) {
            wholeFunction[k] = true;
        }
        for (int k = 0; k <= function.length(); k++) {
            due.enterAlone(function.substring(0, k), wholeFunction[k] ? 0 : 1 + k);
        }
        String hedge = "a[0b[]]c[1]2";
        boolean[] wholeHedge = new boolean[hedge.length() + 1];
        for (int k : new int[] {0, 7, 11, 12}) {
            wholeHedge[k] = true;
        }
        for (int k = 0; k <= hedge.length(); k++) {
            due.readAlone(hedge.substring(0, k), wholeHedge[k] ? 0 : 1 + k);
        }
    }

    private static void stop() {
        due.sentence("The number of characters before that is the STOP.");
        due.enterAlone("", 1);
        due.enterAlone("~", 1);
        due.readAlone("~", 1);
        due.readAlone("a", 2);
        String definition = "A=a[A]*b[B]*c[C]*d[D]*a[A]*b[B]*c[C]*d[D]*a[A]*b[B]*c[C]*d[D]*a[A]*b[B]*c[C]*d[D";
        String function = "f:A>A/.-0123456789a[]/.-0123456789a[]/.-0123456789a[]/.-0123456789a[]/.-01234/.-";
        due.is("characters", definition.length(), 80);
        due.is("characters", function.length(), 80);
        due.enterAlone(definition, 81);
        due.enterAlone(definition.substring(0, 79) + "]", 80);
        due.enterAlone(definition.substring(0, 77) + "[D]", 78);
        due.enterAlone(function, 0);
        due.enterAlone(function.substring(0, 79) + "A", 80);
        due.enterAlone(function.substring(0, 77) + "1/.", 81);
    }
}
