import java.lang.reflect.Field;
import java.lang.reflect.Method;
import java.lang.reflect.Modifier;
import java.nio.file.Files;
import java.nio.file.Path;
import java.util.ArrayList;
import java.util.List;
import java.util.Map;
import java.util.Set;
import java.util.TreeMap;
import java.util.TreeSet;
import java.util.regex.Matcher;
import java.util.regex.Pattern;

/** What of LANGUAGE.md can be seen from outside: the face, words that must not stand, sizes. Run from the project's folder. */
public final class LanguageTest {
    private static final Due DUE = new Due();

    private static final Set<String> FACE = Set.of("int price(int,int,int)", "int bought(int,int,int,int)",
            "int cost(int,int,int)", "int goods(int,int,int)", "int count(int)", "int feed(int,long)", "int number()",
            "int fault()", "long worth(int,int,int,int,int)", "int order(int,int,int,int,int)", "int keeps(int,int,int)",
            "int breach(int,int,int,int)", "int clash(int)", "long drift(int,int,int,int,int)", "int chosen(int,int,int)",
            "int ring(int,int)", "int need(int,int,int,int)", "int part(int,int,int,int,int)",
            "long wage(int,int,int,int,int)", "int dearest(int,int,int)", "int turn(int,int,int,int,int,int,int,int)");
    private static final Set<String> CONSTANTS = Set.of("NONE", "UNKNOWN", "OUTSIDE", "NOT", "FULL", "LARGE");

    private static String told(Method m) {
        StringBuilder b = new StringBuilder(m.getReturnType() + " " + m.getName() + "(");
        for (Class<?> type : m.getParameterTypes()) {
            b.append(b.charAt(b.length() - 1) == '(' ? "" : ",").append(type);
        }
        return b.append(')').toString();
    }

    private static void face() {
        Set<String> shown = new TreeSet<>();
        Set<String> names = new TreeSet<>();
        for (Method m : YearBaskets.class.getDeclaredMethods()) {
            if (Modifier.isPublic(m.getModifiers())) {
                shown.add(told(m));
                names.add(m.getName());
            }
            DUE.due(m + " is public or private", m.getModifiers() & (Modifier.PUBLIC | Modifier.PRIVATE), 
                    Modifier.isPublic(m.getModifiers()) ? Modifier.PUBLIC : Modifier.PRIVATE);
        }
        DUE.due("the public methods " + shown, shown.equals(FACE) ? 1 : 0, 1);
        for (Field f : YearBaskets.class.getDeclaredFields()) {
            DUE.due(f + " is a constant of the face or private",
                    Modifier.isPrivate(f.getModifiers()) != CONSTANTS.contains(f.getName()) ? 1 : 0, 1);
        }
        for (Class<?> inner : YearBaskets.class.getDeclaredClasses()) {
            DUE.due(inner + " is static", Modifier.isStatic(inner.getModifiers()) ? 1 : 0, 1);
            DUE.due(inner + " is shown", inner.getModifiers() & (Modifier.PUBLIC | Modifier.PROTECTED), 0);
        }
        privateNames(YearBaskets.class, names);
        for (Class<?> inner : YearBaskets.class.getDeclaredClasses()) {
            privateNames(inner, names);
        }
    }

    private static void privateNames(Class<?> of, Set<String> names) {
        int fields = 0;
        for (Method m : of.getDeclaredMethods()) {
            boolean isFace = of == YearBaskets.class && Modifier.isPublic(m.getModifiers());
            DUE.due(m + " bears a public one's name", !isFace && names.contains(m.getName()) ? 1 : 0, 0);
            DUE.due(m + " takes at most seven parameters", isFace || m.getParameterCount() <= 7 ? 1 : 0, 1);
        }
        for (Field f : of.getDeclaredFields()) {
            fields += Modifier.isStatic(f.getModifiers()) ? 0 : 1;
            DUE.due(f + ", if static, is final", !Modifier.isStatic(f.getModifiers()) || Modifier.isFinal(f.getModifiers()) ? 1 : 0, 1);
        }
        DUE.due(of + " has some twenty fields at most", fields <= 20 ? 1 : 0, 1);
    }

    private static String withoutCommentsAndTexts(String source) {
        return source.replaceAll("(?s)/\\*.*?\\*/", "").replaceAll("//[^\n]*", "").replaceAll("\"[^\"\n]*\"", "\"\"")
                .replaceAll("'[^'\n]*'", "' '");
    }

    private static void words(String source) {
        String code = withoutCommentsAndTexts(source);
        String[] banned = {"throw", "throws", "try", "catch", "finally", "synchronized", "assert", "import", "package",
            "instanceof", "Object", "Exception", "hashCode", "toString", "System.out", "Exact", "protected", "volatile",
            "native", "random", "Thread", "NaN", "double", "float"};
        for (String word : banned) {
            DUE.due("stands in the code: " + word, Pattern.compile("\\b" + word + "\\b").matcher(code).find() ? 1 : 0, 0);
        }
        for (String sign : new String[] {"->", "::", "@", "Exact("}) {
            DUE.due("stands in the code: " + sign, code.contains(sign) ? 1 : 0, 0);
        }
        Matcher library = Pattern.compile("\\b(String|StringBuilder|ArrayList|List|Integer|Long|Math|System|Arrays|[A-Z][a-z]\\w*)\\.(\\w+)").matcher(code);
        Set<String> used = new TreeSet<>();
        while (library.find()) {
            used.add(library.group());
        }
        used.removeIf(one -> one.startsWith("Fraction.") || one.startsWith("Laws."));
        used.removeAll(Set.of("Integer.bitCount", "Integer.compare", "Math.abs", "System.arraycopy"));
        DUE.due("used of the library beside what is known: " + used, used.size(), 0);
        for (int i = 0; i < source.length(); i++) {
            if (source.charAt(i) > 126) {
                DUE.due("a sign above 126 at " + i, 1, 0);
            }
        }
    }

    private record Written(String name, int line, List<String> body) { }

    /** Methods begin and end at their indents: 4 in the class, 8 in those inside it. */
    private static List<Written> methods(String source) {
        Pattern begin = Pattern.compile("^((?: {4}){1,2})(?!.*\\b(?:class|new)\\b)(?=\\S)(?:.*? )??(\\w+)\\(.*\\) \\{$");
        List<Written> all = new ArrayList<>();
        String[] lines = source.split("\n");
        int start = -1;
        String indent = "";
        String name = "";
        for (int i = 0; i < lines.length; i++) {
            Matcher m = begin.matcher(lines[i]);
            if (start < 0 && m.find()) {
                start = i;
                indent = m.group(1);
                name = m.group(2);
            } else if (start >= 0 && lines[i].equals(indent + "}")) {
                all.add(new Written(name, start + 1, List.of(lines).subList(start, i + 1)));
                start = -1;
            }
        }
        return all;
    }

    private static void lengths(String source) {
        for (Written m : methods(source)) {
            DUE.due("lines of " + m.name + " at line " + m.line, Math.max(60, m.body.size()), 60);
        }
    }

    /** Who calls whom, straight or by others; a name that two classes gave to methods of theirs is one here. */
    private static Map<String, Set<String>> callsOf(List<Written> methods) {
        Map<String, Set<String>> calls = new TreeMap<>();
        methods.forEach(m -> calls.put(m.name, new TreeSet<>()));
        for (Written m : methods) {
            String body = withoutCommentsAndTexts(String.join("\n", m.body.subList(1, m.body.size())));
            Matcher call = Pattern.compile("(\\w+)\\(").matcher(body);
            while (call.find()) {
                if (calls.containsKey(call.group(1))) {
                    calls.get(m.name).add(call.group(1));
                }
            }
        }
        return calls;
    }

    private static Set<String> reachedFrom(String name, Map<String, Set<String>> calls) {
        Set<String> reached = new TreeSet<>();
        List<String> open = new ArrayList<>(calls.get(name));
        while (!open.isEmpty()) {
            String next = open.remove(open.size() - 1);
            if (reached.add(next)) {
                open.addAll(calls.get(next));
            }
        }
        return reached;
    }

    /** How deep calls go from a method on; those that call one another in a ring count once together. */
    private static int depthOf(String name, Map<String, Set<String>> calls, Map<String, Integer> known) {
        if (known.containsKey(name)) {
            return known.get(name);
        }
        Set<String> ring = new TreeSet<>(Set.of(name));
        for (String other : reachedFrom(name, calls)) {
            if (reachedFrom(other, calls).contains(name)) {
                ring.add(other);
            }
        }
        int deepest = 0;
        for (String one : ring) {
            for (String next : calls.get(one)) {
                deepest = ring.contains(next) ? deepest : Math.max(deepest, depthOf(next, calls, known));
            }
        }
        known.put(name, deepest + 1);
        return deepest + 1;
    }

    private static void depths(String source) {
        Map<String, Set<String>> calls = callsOf(methods(source));
        Map<String, Integer> known = new TreeMap<>();
        DUE.due("methods that were found", calls.keySet().containsAll(Set.of("turn", "tellTerm", "YearBaskets", "Laws", "choiceAt")) ? 1 : 0, 1);
        DUE.due("tellTerm calls itself by tellLink", reachedFrom("tellLink", calls).contains("tellLink") ? 1 : 0, 1);
        for (String name : calls.keySet()) {
            DUE.due("calls that are no recursion, from " + name + " on", Math.max(8, depthOf(name, calls, known)), 8);
        }
        DUE.due("classes in the file", Math.max(12, YearBaskets.class.getDeclaredClasses().length + 1), 12);
    }

    public static void main(String[] args) throws Exception {
        String source = Files.readString(Path.of("src/main/java/YearBaskets.java"));
        face();
        words(source);
        lengths(source);
        depths(source);
        DUE.end("LanguageTest");
    }
}
