import java.io.IOException;
import java.nio.file.Files;
import java.nio.file.Path;

/** Drives one HedgeCheck and counts the answers that are not the ones due. */
final class Due {
    /** What an object answers after so many calls is free, so a test that goes on to ask is at fault itself. */
    private static final int CALLS = 512;
    private static final Path DOCUMENT = Path.of("../shared/DOC.md");
    private static final String WORDS = documentWords();

    private static int wrong = 0;
    private static int asked = 0;

    HedgeCheck h = new HedgeCheck();
    String about = "";
    private int most = CALLS;
    private int calls = 0;

    /** Starts again with a new object. */
    Due fresh(String newAbout) {
        h = new HedgeCheck();
        about = newAbout;
        calls = 0;
        return this;
    }

    /** Starts the test of a sentence, which must stand in the document in these words. */
    Due sentence(String words) {
        fresh(words);
        if (WORDS != null && !WORDS.contains(words)) {
            fail("does not stand in " + DOCUMENT);
        }
        return this;
    }

    /** Goes on with the same sentence and a new object. */
    Due again() {
        return fresh(about);
    }

    /** For a test that trusts that this class, though it need not, answers on and on. */
    Due withoutEnd() {
        most = Integer.MAX_VALUE;
        return this;
    }

    /** Null, with a notice, where the document can't be read: the answers are due all the same. */
    private static String documentWords() {
        try {
            return Files.readString(DOCUMENT).replaceAll("\\s+", " ");
        } catch (IOException e) {
            System.out.println("the quoted sentences are not looked up: no " + DOCUMENT);
            return null;
        }
    }

    private void fail(String what) {
        wrong++;
        System.out.println(about + ": " + what);
    }

    private void count(int more) {
        boolean within = calls <= most;
        calls += more;
        if (within && calls > most) {
            fail("the test makes more than " + most + " calls of one object");
        }
    }

    void is(String call, long got, long want) {
        asked++;
        count(1);
        if (got != want) {
            fail(call + " answered " + got + ", due is " + want);
        }
    }

    void is(String call, boolean got, boolean want) {
        is(call, got ? 1 : 0, want ? 1 : 0);
    }

    void is(String call, String got, String want) {
        asked++;
        if (!got.equals(want)) {
            fail(call + " answered '" + got + "', due is '" + want + "'");
        }
    }

    /** The pad becomes this text. */
    void pad(String text) {
        count(1 + text.length());
        h.clear();
        for (int k = 0; k < text.length(); k++) {
            if (!h.type(text.charAt(k))) {
                fail("type refused a character of " + text);
            }
        }
    }

    void enter(String text, int want) {
        pad(text);
        is("enter of " + text, h.enter(), want);
    }

    void read(String text, int want) {
        pad(text);
        is("read of " + text, h.read(), want);
    }

    /** The same with a new object. */
    void enterAlone(String text, int want) {
        again().enter(text, want);
    }

    void readAlone(String text, int want) {
        again().read(text, want);
    }

    /** Whether a hedge belongs to a name. */
    void valid(String hedge, int name, boolean want) {
        read(hedge, 0);
        is("valid(" + name + ") of " + hedge, h.valid(name), want);
    }

    /** What running answers, and the value behind it. */
    void run(int function, String document, int want, String value) {
        read(document, 0);
        is("run(" + function + ") on " + document, h.run(function), want);
        is("value", value(), value);
    }

    String document() {
        StringBuilder text = new StringBuilder();
        int code = h.text(0);
        for (int k = 1; k < 1000 && code != HedgeCheck.NONE; k++) {
            text.append((char) code);
            code = h.text(k);
        }
        count(text.length() + 1);
        return text.toString();
    }

    String value() {
        StringBuilder text = new StringBuilder();
        int code = h.value(0);
        for (int k = 1; k < 1000 && code != HedgeCheck.NONE; k++) {
            text.append((char) code);
            code = h.value(k);
        }
        count(text.length() + 1);
        return text.toString();
    }

    static void end() {
        System.out.println(asked + " answers asked, " + wrong + " wrong");
        if (wrong > 0 || asked == 0) {
            System.exit(1);
        }
    }
}
