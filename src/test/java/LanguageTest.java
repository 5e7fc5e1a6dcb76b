import java.io.IOException;
import java.io.PrintWriter;
import java.io.StringWriter;
import java.lang.reflect.Constructor;
import java.lang.reflect.Field;
import java.lang.reflect.Method;
import java.lang.reflect.Modifier;
import java.nio.file.Files;
import java.nio.file.Path;
import java.util.ArrayList;
import java.util.Arrays;
import java.util.List;
import java.util.Map;
import java.util.Set;
import java.util.TreeMap;
import java.util.TreeSet;
import java.util.regex.Matcher;
import java.util.regex.Pattern;
import java.util.spi.ToolProvider;

/** The face of the document, and those rules of LANGUAGE.md that can be seen without understanding. */
public final class LanguageTest {
    private static final Path SOURCE = Path.of("src/main/java/WalledFields.java");
    private static final Path DOCUMENT = Path.of("../shared/DOC.md");
    private static final int DEEPEST = 8;
    // What is in use of that which rule 4 allows; whoever needs more of it adds it here.
    private static final Set<String> LIBRARY = Set.of("java/lang/Object.<init>", "java/lang/Math.max", "java/lang/Math.min",
        "java/lang/String.length", "java/lang/String.charAt", "java/lang/System.arraycopy");
    private static int wrong;

    private static void check(boolean isRight, String what) {
        if (!isRight) {
            wrong++;
            System.out.println(what);
        }
    }

    public static void main(String[] args) throws IOException {
        List<Class<?>> classes = new ArrayList<>(List.of(WalledFields.class));
        classes.addAll(Arrays.asList(WalledFields.class.getDeclaredClasses()));
        checkFace();
        classes.forEach(LanguageTest::checkClass);
        check(classes.size() <= 12, "too many classes: " + classes.size());
        String source = Files.readString(SOURCE);
        checkWords(source);
        checkLengths(source);
        checkCalls(classes);
        System.out.println(wrong == 0 ? "the rules that can be seen are kept" : wrong + " rules are not kept");
        if (wrong != 0) System.exit(1);
    }

    private static void checkFace() throws IOException {
        Set<String> due = new TreeSet<>();
        String document = Files.readString(DOCUMENT);
        String face = document.substring(document.indexOf("```java"), document.indexOf("```", document.indexOf("```java") + 3));
        Matcher matcher = Pattern.compile("public (int|long) (\\w+)\\(([^)]*)\\);").matcher(face);
        while (matcher.find()) {
            due.add(matcher.group(1) + " " + matcher.group(2) + "(" + matcher.group(3).replaceAll(" \\w+(,|$)", "$1") + ")");
        }
        Set<String> found = new TreeSet<>();
        for (Method method : WalledFields.class.getDeclaredMethods()) {
            if (Modifier.isPublic(method.getModifiers())) {
                List<String> types = Arrays.stream(method.getParameterTypes()).map(Class::getName).toList();
                found.add(method.getReturnType().getName() + " " + method.getName() + "(" + String.join(", ", types) + ")");
            } else {
                check(Modifier.isPrivate(method.getModifiers()), method + " is seen from outside");
            }
        }
        check(!due.isEmpty() && due.equals(found), "the face is " + found + ", due is " + due);
        for (Field field : WalledFields.class.getDeclaredFields()) {
            check(Modifier.isPrivate(field.getModifiers()), field + " is seen from outside");
        }
        Constructor<?>[] constructors = WalledFields.class.getDeclaredConstructors();
        check(constructors.length == 1 && constructors[0].getParameterCount() == 0, "constructors");
        check(Modifier.isFinal(WalledFields.class.getModifiers()), "the class isn't final");
    }

    private static void checkClass(Class<?> type) {
        int fields = 0;
        for (Field field : type.getDeclaredFields()) {
            boolean isStatic = Modifier.isStatic(field.getModifiers());
            fields += isStatic ? 0 : 1;
            check(!isStatic || Modifier.isFinal(field.getModifiers()), field + " is static and not final");
        }
        check(fields <= 20, type + " has " + fields + " fields");
        Set<String> names = new TreeSet<>();
        for (Method method : WalledFields.class.getDeclaredMethods()) {
            if (Modifier.isPublic(method.getModifiers())) names.add(method.getName());
        }
        for (Method method : type.getDeclaredMethods()) {
            boolean isFace = type == WalledFields.class && Modifier.isPublic(method.getModifiers());
            check(isFace || !names.contains(method.getName()), method + " bears a name of the face");
            check(method.getParameterCount() <= 7, method + " has too many parameters");
        }
        if (type != WalledFields.class) {
            check(Modifier.isStatic(type.getModifiers()) && !Modifier.isPublic(type.getModifiers()), type + " is public or not static");
        }
    }

    private static void checkWords(String source) {
        String code = source.replaceAll("(?s)/\\*.*?\\*/", "").replaceAll("//[^\n]*", "")
            .replaceAll("\"[^\"\n]*\"", "\"\"").replaceAll("'[^'\n]*'", "' '");
        String[] banned = {
            "\\b(throw|throws|try|catch|finally|synchronized|assert|import|package|native|volatile|transient)\\b",
            "->", "::", "Exact\\b", "static\\s*\\{", "\\b(double|float|Object|Thread|Random|Class)\\b",
            "\\b(equals|hashCode|toString|getClass)\\b", "\\bSystem\\.(?!arraycopy\\b)", "\"\\s*\\+", "\\+\\s*\"",
        };
        for (String pattern : banned) {
            Matcher matcher = Pattern.compile(pattern).matcher(code);
            if (matcher.find()) check(false, "the program has " + matcher.group());
        }
        check(source.chars().allMatch(c -> c == '\n' || c >= ' ' && c < 127), "the program has a strange sign");
    }

    private static void checkLengths(String source) {
        String[] lines = source.split("\n");
        for (int from = 0; from < lines.length; from++) {
            if (!lines[from].matches("( {4}| {8})\\w.*\\(.*\\) \\{") || lines[from].matches(" +(if|for|while|switch|else) .*")) continue;
            String close = lines[from].replaceAll("\\w.*", "") + "}";
            int to = from;
            while (to < lines.length && !lines[to].equals(close)) to++;
            check(to - from < 60, "a method of " + (to - from + 1) + " lines: " + lines[from].trim());
        }
    }

    /** What the compiled methods call: no library but what is known to be allowed, no recursion, not too deep. */
    private static void checkCalls(List<Class<?>> classes) {
        Map<String, Set<String>> calls = new TreeMap<>();
        for (Class<?> type : classes) {
            addCalls(type.getName(), calls);
        }
        check(calls.size() > 45, "only " + calls.size() + " methods were seen");
        Set<String> strange = new TreeSet<>();
        calls.values().forEach(strange::addAll);
        strange.removeAll(calls.keySet());
        strange.removeAll(LIBRARY);
        check(strange.isEmpty(), "the program calls " + strange);
        for (String method : calls.keySet()) {
            checkDepth(List.of(method), calls);
        }
    }

    private static void addCalls(String type, Map<String, Set<String>> calls) {
        StringWriter told = new StringWriter();
        PrintWriter writer = new PrintWriter(told);
        int code = ToolProvider.findFirst("javap").orElseThrow()
            .run(writer, writer, "-c", "-p", "-cp", System.getProperty("java.class.path"), type);
        check(code == 0, "javap tells nothing of " + type + ": " + told);
        Pattern head = Pattern.compile("^  (?=\\S)(?:[^(]* )?([\\w$]+)\\(.*\\);$");
        Pattern call = Pattern.compile("// (?:Interface)?Method ([^:]+):");
        String method = "";
        for (String line : told.toString().split("\\R")) {
            Matcher begun = head.matcher(line);
            Matcher called = call.matcher(line);
            if (begun.find()) {
                method = type + "." + (begun.group(1).equals(type) ? "<init>" : begun.group(1));
                calls.putIfAbsent(method, new TreeSet<>());
            } else if (called.find() && !method.isEmpty()) {
                String name = called.group(1).replace("\"", "");
                calls.get(method).add(name.contains(".") ? name : type + "." + name);
            }
        }
    }

    private static void checkDepth(List<String> open, Map<String, Set<String>> calls) {
        check(open.size() <= DEEPEST, "calls too deep: " + open);
        for (String next : calls.getOrDefault(open.get(open.size() - 1), Set.of())) {
            check(!open.contains(next), next + " calls itself by " + open);
            if (open.size() > DEEPEST || open.contains(next)) continue;
            List<String> more = new ArrayList<>(open);
            more.add(next);
            checkDepth(more, calls);
        }
    }
}
