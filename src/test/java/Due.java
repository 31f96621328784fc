/** Drives one HedgeCheck and counts the answers that are not the ones due. */
final class Due {
    private static int wrong = 0;
    private static int asked = 0;

    HedgeCheck h = new HedgeCheck();
    String about = "";

    /** Starts again with a new object. */
    Due fresh(String newAbout) {
        h = new HedgeCheck();
        about = newAbout;
        return this;
    }

    void is(String call, long got, long want) {
        asked++;
        if (got != want) {
            wrong++;
            System.out.println(about + ": " + call + " answered " + got + ", due is " + want);
        }
    }

    void is(String call, boolean got, boolean want) {
        is(call, got ? 1 : 0, want ? 1 : 0);
    }

    void is(String call, String got, String want) {
        asked++;
        if (!got.equals(want)) {
            wrong++;
            System.out.println(about + ": " + call + " answered '" + got + "', due is '" + want + "'");
        }
    }

    /** The pad becomes this text. */
    void pad(String text) {
        h.clear();
        for (int k = 0; k < text.length(); k++) {
            if (!h.type(text.charAt(k))) {
                is("type of " + text, false, true);
            }
        }
    }

    void enter(String text, int want) {
        pad(text);
        is("enter of " + text, h.enter(), want);
    }

    void read(String text, int want) {
        pad(text);
        is("read of " + text, h.read(), want);
    }

    String document() {
        StringBuilder text = new StringBuilder();
        for (int k = 0; k < 1000 && h.text(k) != HedgeCheck.NONE; k++) {
            text.append((char) h.text(k));
        }
        return text.toString();
    }

    String value() {
        StringBuilder text = new StringBuilder();
        for (int k = 0; k < 1000 && h.value(k) != HedgeCheck.NONE; k++) {
            text.append((char) h.value(k));
        }
        return text.toString();
    }

    static void end() {
        System.out.println(asked + " answers asked, " + wrong + " wrong");
        if (wrong > 0 || asked == 0) {
            System.exit(1);
        }
    }
}
