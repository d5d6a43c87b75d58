import java.io.File;
import java.lang.reflect.Constructor;
import java.lang.reflect.Field;
import java.lang.reflect.Method;
import java.lang.reflect.Modifier;
import java.nio.file.Files;
import java.nio.file.Path;
import java.util.Set;
import java.util.TreeSet;
import java.util.regex.Matcher;
import java.util.regex.Pattern;

/** README.md tells the truth: its example answers as told, and no call, constant or test is missing. Run from the project's folder. */
public final class ReadmeTest {
    private static final Due DUE = new Due();

    private static void stands(String readme, String text) {
        DUE.due("stands in README.md: " + text, readme.contains(text) ? 1 : 0, 1);
    }

    /** A call as the document's face tells it, but for the names of its arguments. */
    private static String pattern(Method m) {
        StringBuilder b = new StringBuilder("`" + m.getReturnType() + " " + m.getName() + "\\(");
        for (Class<?> type : m.getParameterTypes()) {
            b.append(b.charAt(b.length() - 1) == '(' ? "" : ", ").append(type).append(" \\w+");
        }
        return b.append("\\)` \\|").toString();
    }

    private static Method callOf(String name) {
        for (Method m : YearBaskets.class.getMethods()) {
            if (m.getName().equals(name) && m.getDeclaringClass() == YearBaskets.class) {
                return m;
            }
        }
        throw new IllegalArgumentException("README.md calls " + name);
    }

    private static Object[] argumentsOf(Method m, String told) {
        String[] parts = told.isEmpty() ? new String[0] : told.split(", *");
        Object[] arguments = new Object[parts.length];
        for (int i = 0; i < parts.length; i++) {
            boolean isLong = m.getParameterTypes()[i] == long.class;
            arguments[i] = isLong ? (Object) Long.valueOf(parts[i].replace("L", "")) : Integer.valueOf(parts[i]);
        }
        return arguments;
    }

    /** Every line of the example that calls x tells its answer; each call of the face is among them. */
    private static void example(String readme) throws Exception {
        YearBaskets x = new YearBaskets();
        Set<String> called = new TreeSet<>();
        Matcher line = Pattern.compile("(?m)^x\\.(\\w+)\\((.*?)\\); +// (-?\\d+)(?:: (.*))?$").matcher(readme);
        while (line.find()) {
            Method m = callOf(line.group(1));
            Number got = (Number) m.invoke(x, argumentsOf(m, line.group(2)));
            DUE.due("README.md: " + line.group(), got.longValue(), Long.parseLong(line.group(3)));
            called.add(m.getName());
            if (m.getName().equals("feed")) {
                String text = line.group(4).replaceAll("^\"|\"$", "");
                DUE.due("the bytes of " + text, (Long) argumentsOf(m, line.group(2))[1], Due.packed(text));
            }
        }
        Matcher any = Pattern.compile("(?m)^x\\..*$").matcher(readme);
        while (any.find()) {
            DUE.due("tells its answer: " + any.group(), any.group().matches(".*\\); +// -?\\d+(:.*)?") ? 1 : 0, 1);
        }
        for (Method m : YearBaskets.class.getDeclaredMethods()) {
            if (Modifier.isPublic(m.getModifiers())) {
                DUE.due("the example calls " + m.getName(), called.contains(m.getName()) ? 1 : 0, 1);
            }
        }
    }

    private static void face(String readme) throws Exception {
        for (Method m : YearBaskets.class.getDeclaredMethods()) {
            if (Modifier.isPublic(m.getModifiers())) {
                DUE.due("stands in README.md: " + m, Pattern.compile(pattern(m)).matcher(readme).find() ? 1 : 0, 1);
            }
        }
        for (Constructor<?> c : YearBaskets.class.getConstructors()) {
            stands(readme, "`" + c.getName() + "()` |");
        }
        for (Field f : YearBaskets.class.getFields()) {
            stands(readme, "| `" + f.getName() + "` | " + f.getInt(null) + " |");
        }
    }

    private static void tests(String readme) {
        String[] names = new File("src/test/java").list();
        DUE.due("there are tests", names != null && names.length > 0 ? 1 : 0, 1);
        for (String name : names == null ? new String[0] : names) {
            if (name.endsWith("Test.java")) {
                stands(readme, "| `" + name.replace(".java", "") + "` | ");
            }
        }
    }

    public static void main(String[] args) throws Exception {
        String readme = Files.readString(Path.of("README.md"));
        example(readme);
        face(readme);
        tests(readme);
        DUE.end("ReadmeTest");
    }
}
