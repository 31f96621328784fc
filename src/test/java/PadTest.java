/** Promises 1 to 3: a new object, type, clear. */
final class PadTest {
    private static final Due due = new Due();

    public static void main(String[] args) {
        newObject();
        codes();
        length();
        clearing();
        objectsApart();
        Due.end();
    }

    private static void newObject() {
        HedgeCheck h = due.fresh("a new object").h;
        due.is("size()", h.size(), 0);
        due.is("text(0)", h.text(0), HedgeCheck.NONE);
        due.is("valueSize()", h.valueSize(), 0);
        due.is("value(0)", h.value(0), HedgeCheck.NONE);
        due.is("kinds()", h.kinds(), 2);
        for (int name = 0; name < 6; name++) {
            due.is("valid", h.valid(name), false);
            due.is("valueValid", h.valueValid(name), false);
            due.is("least", h.least(name), HedgeCheck.NONE);
        }
        for (int function = 0; function < 3; function++) {
            due.is("run", h.run(function), HedgeCheck.MISSING);
            due.is("wrong", h.wrong(function), HedgeCheck.MISSING);
            due.is("safe", h.safe(function), false);
        }
        due.is("enter() of the empty pad", h.enter(), 1);
        due.is("take() of the first value", h.take(), true);
        due.is("read() of the empty pad", h.read(), 0);
    }

    private static void codes() {
        for (int code = 0; code <= 0xFFFF; code += code < 300 ? 1 : 97) {
            due.fresh("code " + code);
            due.is("type", due.h.type((char) code), code >= 32 && code <= 126);
            due.is("enter() behind it", due.h.enter(), code >= 'A' && code <= 'F' || code >= 'f' && code <= 'h' ? 2 : 1);
        }
        due.is("type of the last code", due.fresh("code 65535").h.type('\uffff'), false);
    }

    private static void length() {
        due.fresh("80 characters");
        for (int k = 0; k < 80; k++) {
            due.is("type", due.h.type(k == 0 ? 'A' : k == 1 ? '=' : k % 2 == 0 ? '#' : '*'), k < 80);
        }
        due.is("character 81", due.h.type('#'), false);
        due.is("character 81 again", due.h.type('|'), false);
        due.is("enter() stops at the 17th item", due.h.enter(), 1 + 2 + 32);
    }

    private static void clearing() {
        due.fresh("clear");
        due.h.clear();
        due.is("read() of the empty pad", due.h.read(), 0);
        due.pad("A=#");
        due.is("enter()", due.h.enter(), 0);
        due.is("the pad stays", due.h.enter(), 0);
        due.h.clear();
        due.is("enter() of the cleared pad", due.h.enter(), 1);
        due.is("what was entered stays", due.h.least(0), 1);
        for (int k = 0; k < 80; k++) {
            due.h.type(' ');
        }
        due.is("full", due.h.type('1'), false);
        due.h.clear();
        due.is("type after clear", due.h.type('1'), true);
        due.is("read()", due.h.read(), 0);
        due.is("document", due.document(), "1");
    }

    private static void objectsApart() {
        Due one = new Due();
        Due two = new Due();
        one.about = "two objects";
        two.about = "two objects";
        one.enter("A=#", 0);
        one.read("1", 0);
        two.is("the other one's size()", two.h.size(), 0);
        two.is("the other one's least(0)", two.h.least(0), HedgeCheck.NONE);
        two.enter("A=##", 0);
        one.is("least(0)", one.h.least(0), 1);
    }
}
