import java.lang.reflect.Field;
import java.lang.reflect.Method;
import java.lang.reflect.Modifier;
import java.nio.file.Files;
import java.nio.file.Path;
import java.util.Set;
import java.util.TreeSet;

/** The public face and those rules of LANGUAGE.md that a look at the class or its words can tell. */
final class FaceTest {
    private static final String[] METHODS = {
        "boolean type(char)", "void clear()", "int enter()", "int read()", "int size()", "int text(int)", "boolean valid(int)",
        "int kinds()", "long least(int)", "long differ(int,int)", "long show(int,int)", "long uncovered(int)", "int useless(int)",
        "int wrong(int)", "boolean safe(int)", "int run(int)", "int valueSize()", "int value(int)", "boolean valueValid(int)",
        "boolean take()",
    };
    private static final String[] FORBIDDEN = {
        "throw", "throws", "try", "catch", "synchronized", "assert", "import", "package", "Object", "HashMap", "Random", "Thread",
        "hashCode", "toString", "Exact", "native", "volatile", "protected",
    };
    private static final Due due = new Due();

    public static void main(String[] args) throws Exception {
        constants();
        due.fresh("face");
        members();
        classesInside();
        words(Files.readString(Path.of(args.length > 0 ? args[0] : "src/main/java/HedgeCheck.java")));
        Due.end();
    }

    private static void constants() {
        due.sentence("`NONE = -1`: There is none.");
        due.is("NONE", HedgeCheck.NONE, -1);
        due.sentence("`MISSING = -2`: No such name, or no such function, or it is not defined.");
        due.is("MISSING", HedgeCheck.MISSING, -2);
        due.sentence("`ROOM = -3`: There are more than 40 kinds.");
        due.is("ROOM", HedgeCheck.ROOM, -3);
        due.sentence("`STUCK = -4`: Running was stuck.");
        due.is("STUCK", HedgeCheck.STUCK, -4);
        due.sentence("`FULL = -5`: There would be too much.");
        due.is("FULL", HedgeCheck.FULL, -5);
    }

    private static void members() {
        Class<?> face = HedgeCheck.class;
        due.is("modifiers", face.getModifiers(), Modifier.PUBLIC | Modifier.FINAL);
        due.is("constructors", face.getDeclaredConstructors().length, 1);
        due.is("the constructor's parameters", face.getDeclaredConstructors()[0].getParameterCount(), 0);
        Set<String> found = new TreeSet<>();
        Set<String> privates = new TreeSet<>();
        Set<String> publics = new TreeSet<>();
        for (Method method : face.getDeclaredMethods()) {
            if (method.isSynthetic()) {
                continue;
            }
            boolean open = Modifier.isPublic(method.getModifiers());
            (open ? publics : privates).add(method.getName());
            due.is(method.getName() + " is public or private", open || Modifier.isPrivate(method.getModifiers()), true);
            if (open) {
                String text = method.toString().replace("public ", "").replace("HedgeCheck.", "");
                found.add(text);
            }
        }
        due.is("methods", found.toString(), new TreeSet<>(Set.of(METHODS)).toString());
        privates.retainAll(publics);
        due.is("private methods with public names", privates.toString(), "[]");
        int constants = 0;
        for (Field field : face.getDeclaredFields()) {
            boolean open = Modifier.isPublic(field.getModifiers());
            constants += open ? 1 : 0;
            due.is(field.getName() + " is public or private", open || Modifier.isPrivate(field.getModifiers()), true);
            due.is(field.getName() + " is static and final, or neither static", !Modifier.isStatic(field.getModifiers())
                    || Modifier.isFinal(field.getModifiers()), true);
        }
        due.is("public fields", constants, 5);
    }

    private static void classesInside() {
        Class<?>[] inside = HedgeCheck.class.getDeclaredClasses();
        due.is("at most 12 classes", inside.length + 1 <= 12, true);
        for (Class<?> each : inside) {
            due.is(each.getName() + " is static", Modifier.isStatic(each.getModifiers()), true);
            due.is(each.getName() + " is not open", (each.getModifiers() & (Modifier.PUBLIC | Modifier.PROTECTED)) == 0, true);
            int fields = 0;
            for (Field field : each.getDeclaredFields()) {
                fields += Modifier.isStatic(field.getModifiers()) ? 0 : 1;
            }
            due.is(each.getName() + " has at most 20 fields", fields <= 20, true);
            for (Method method : each.getDeclaredMethods()) {
                due.is(method.getName() + " takes at most 7", method.getParameterCount() <= 7, true);
            }
        }
    }

    private static void words(String source) {
        String code = source.replaceAll("(?s)/\\*.*?\\*/", " ").replaceAll("//[^\\n]*", " ");
        for (String word : FORBIDDEN) {
            due.is("the word " + word, code.matches("(?s).*\\b" + word + "\\b.*"), false);
        }
        due.is("lambdas", code.contains("->"), false);
        due.is("method references", code.contains("::"), false);
        due.is("characters 0 to 126", source.chars().allMatch(c -> c < 127), true);
    }
}
