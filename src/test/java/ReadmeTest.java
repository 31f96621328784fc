import java.lang.reflect.Method;
import java.nio.file.Files;
import java.nio.file.Path;
import java.util.Set;
import java.util.TreeSet;
import java.util.regex.Matcher;
import java.util.regex.Pattern;

/** The example of README.md, line by line: each answer is the one that its comment begins with. */
final class ReadmeTest {
    private static final Pattern PUT = Pattern.compile("put\\(h, \"(.*)\"\\);");
    private static final Pattern CALL = Pattern.compile("h\\.(\\w+)\\(([^)]*)\\); +// (\\S+):.*");
    private static final Due due = new Due();

    public static void main(String[] args) throws Exception {
        due.fresh("README.md");
        Set<String> left = methods();
        for (String line : Files.readAllLines(Path.of(args.length > 0 ? args[0] : "README.md"))) {
            Matcher put = PUT.matcher(line);
            Matcher call = CALL.matcher(line);
            if (put.matches()) {
                due.pad(put.group(1));
            } else if (call.matches()) {
                due.is(line, answer(call.group(1), call.group(2)), call.group(3));
                left.remove(call.group(1));
            }
        }
        due.is("what the example leaves out, but for what put() calls", left.toString(), "[clear, type]");
        Due.end();
    }

    private static Set<String> methods() {
        Set<String> names = new TreeSet<>();
        for (Method method : HedgeCheck.class.getMethods()) {
            if (method.getDeclaringClass() == HedgeCheck.class) {
                names.add(method.getName());
            }
        }
        return names;
    }

    private static String answer(String name, String numbers) throws Exception {
        String[] parts = numbers.isEmpty() ? new String[0] : numbers.split(", ");
        Class<?>[] types = new Class<?>[parts.length];
        Object[] values = new Object[parts.length];
        for (int k = 0; k < parts.length; k++) {
            types[k] = int.class;
            values[k] = Integer.valueOf(parts[k]);
        }
        return String.valueOf(HedgeCheck.class.getMethod(name, types).invoke(due.h, values));
    }
}
