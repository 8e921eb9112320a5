import java.io.IOException;
import java.lang.reflect.Constructor;
import java.lang.reflect.Field;
import java.lang.reflect.Method;
import java.lang.reflect.Modifier;
import java.nio.file.Files;
import java.nio.file.Path;
import java.util.ArrayList;
import java.util.List;
import java.util.Map;
import java.util.Set;
import java.util.TreeMap;
import java.util.TreeSet;
import java.util.regex.Matcher;
import java.util.regex.Pattern;

/** The public face as the document has it, and what of LANGUAGE.md can be read off the file or its classes. */
final class LanguageTest {
    private static final Path FILE = Path.of("src/main/java/OneLampAllOut.java");
    private static final String[] FACE = {
        "int feed(int)", "int string()", "int lamp(int,int)", "int set(int,int)", "int flow()", "int hour()",
        "int swap(int)", "int meter(int,int)", "int finder(int)", "int touch(int)", "int find(int,int,int)",
        "int look(int,int,int)", "int order(int)", "int orderSum()", "int told(int,int)", "int openTo()",
        "int judge()", "int lasts()", "int next(int)", "int bridged(int)", "int stop()", "int light(int)",
        "int keeps(int)", "int allAnew()", "int joined()", "long two(int)", "int seeds(int,int)", "int image()",
        "int restore()", "int count(int)"};
    private static final String[] FORBIDDEN = {"throw", "throws", "try", "catch", "finally", "synchronized", "assert",
        "import", "package", "native", "volatile", "transient", "strictfp", "protected", "NaN", "System", "Thread",
        "Random", "hashCode", "toString", "Object", "var"};

    private LanguageTest() {
    }

    public static void main(String[] args) throws IOException {
        face();
        nested();
        String code = withoutCommentsAndTexts(Files.readString(FILE));
        words(code);
        Check.due("calls go eight deep at most", deepest(callsOf(code)) <= 8 ? 1 : 0, 1);
        Check.close("LanguageTest");
    }

    private static String told(Method method) {
        List<String> types = new ArrayList<>();
        for (Class<?> type : method.getParameterTypes()) {
            types.add(type.getSimpleName());
        }
        return method.getReturnType().getSimpleName() + " " + method.getName() + "(" + String.join(",", types) + ")";
    }

    private static void face() {
        Class<?> face = OneLampAllOut.class;
        Check.due("public and final", face.getModifiers() & (Modifier.PUBLIC | Modifier.FINAL),
            Modifier.PUBLIC | Modifier.FINAL);
        Check.due("constructors", face.getDeclaredConstructors().length, 1);
        for (Constructor<?> constructor : face.getDeclaredConstructors()) {
            Check.due("constructor", constructor.getParameterCount(), 0);
            Check.due("constructor is public", constructor.getModifiers(), Modifier.PUBLIC);
        }
        Set<String> got = new TreeSet<>();
        Set<String> publicNames = new TreeSet<>();
        for (Method method : face.getDeclaredMethods()) {
            if (!Modifier.isPrivate(method.getModifiers())) {
                Check.due(method + " is public, not static", method.getModifiers(), Modifier.PUBLIC);
                got.add(told(method));
                publicNames.add(method.getName());
            }
        }
        Check.same("the face", got.toString(), new TreeSet<>(Set.of(FACE)).toString());
        List<Class<?>> all = new ArrayList<>(List.of(face.getDeclaredClasses()));
        all.add(face);
        for (Class<?> one : all) {
            for (Method method : one.getDeclaredMethods()) {
                boolean borrowed = publicNames.contains(method.getName())
                    && !Modifier.isPublic(method.getModifiers());
                Check.due(method + " has a name of the face", borrowed ? 1 : 0, 0);
                Check.due(method + " parameters", method.getParameterCount() <= 7 ? 1 : 0, 1);
            }
            fields(one);
        }
        for (Field field : face.getDeclaredFields()) {
            Check.due(field + " is private", Modifier.isPrivate(field.getModifiers()) ? 1 : 0, 1);
        }
    }

    private static void fields(Class<?> one) {
        int own = 0;
        for (Field field : one.getDeclaredFields()) {
            if (Modifier.isStatic(field.getModifiers())) {
                Check.due(field + " is final", Modifier.isFinal(field.getModifiers()) ? 1 : 0, 1);
                boolean plain = Set.of("int", "long", "boolean", "char", "String", "int[]", "long[]", "char[]", "byte[]")
                    .contains(field.getType().getSimpleName());
                Check.due(field + " is a constant", plain ? 1 : 0, 1);
            } else {
                own++;
            }
        }
        Check.due(one + " fields", own <= 20 ? 1 : 0, 1);
    }

    private static void nested() {
        Class<?>[] inside = OneLampAllOut.class.getDeclaredClasses();
        Check.due("classes", inside.length <= 11 ? 1 : 0, 1);
        for (Class<?> one : inside) {
            Check.due(one + " is static", Modifier.isStatic(one.getModifiers()) ? 1 : 0, 1);
            Check.due(one + " is not public", Modifier.isPublic(one.getModifiers()) ? 1 : 0, 0);
            Check.due(one + " holds no class", one.getDeclaredClasses().length, 0);
        }
    }

    private static String withoutCommentsAndTexts(String source) {
        return source.replaceAll("(?s)/\\*.*?\\*/", " ").replaceAll("//[^\n]*", " ")
            .replaceAll("\"[^\"\n]*\"", "TEXT").replaceAll("'[^'\n]+'", "SIGN");
    }

    private static void words(String code) {
        for (String word : FORBIDDEN) {
            Check.due("the word " + word, count(code, "\\b" + word + "\\b"), 0);
        }
        Check.due("lambdas", count(code, "->"), 0);
        Check.due("method references", count(code, "::"), 0);
        Check.due("functions that end in Exact", count(code, "Exact\\b"), 0);
        Check.due("loops without an end", count(code, "while\\s*\\(\\s*true|for\\s*\\(\\s*;\\s*;"), 0);
        Check.due("library calls but of Math", count(code, "\\b(?!Math\\.(?:min|max)\\(|Chance\\.)[A-Z]\\w*\\.\\w+"), 0);
        // a method of some sixty lines: its body begins and ends with the same indent
        Matcher method = Pattern.compile("(?m)^( {4}| {8})(?! )[^\n;=]*\\)\\s*\\{\n(.*?)^\\1\\}", Pattern.DOTALL)
            .matcher(code);
        int methods = 0;
        while (method.find()) {
            methods++;
            Check.due("lines of a method", method.group(2).split("\n").length <= 60 ? 1 : 0, 1);
        }
        Check.due("methods were found", methods > 60 ? 1 : 0, 1);
    }

    /** For each method (its class and name) the names that it calls. */
    private static Map<String, Set<String>> callsOf(String code) {
        Map<String, Set<String>> calls = new TreeMap<>();
        String inside = "";
        Set<String> called = new TreeSet<>();
        for (String line : code.split("\n")) {
            Matcher type = Pattern.compile("\\bclass (\\w+) \\{").matcher(line);
            Matcher method = Pattern.compile("(?: {4}| {8})(?! )[^=;]*?(\\w+)\\([^)]*\\) \\{").matcher(line);
            if (type.find()) {
                inside = type.group(1);
            } else if (method.matches()) {
                called = calls.computeIfAbsent(inside + "." + method.group(1), name -> new TreeSet<>());
            } else {
                Matcher call = Pattern.compile("(\\w+)\\(").matcher(line);
                while (call.find()) {
                    called.add(call.group(1));
                }
            }
        }
        return calls;
    }

    private static int deepest(Map<String, Set<String>> calls) {
        int deepest = 0;
        for (String method : calls.keySet()) {
            deepest = Math.max(deepest, depthOf(method, calls, 1));
        }
        return deepest;
    }

    // Which class a call goes to cannot be read off its name, so all are taken that have it, but for the caller
    // itself (a row copies its lamps by the same name). Calls in a ring would be endless, so it ends far above eight.
    private static int depthOf(String method, Map<String, Set<String>> calls, int depth) {
        int deepest = depth;
        for (String other : calls.keySet()) {
            String name = other.substring(other.indexOf('.') + 1);
            if (depth < 20 && !name.equals(method.substring(method.indexOf('.') + 1))
                && calls.get(method).contains(name)) {
                deepest = Math.max(deepest, depthOf(other, calls, depth + 1));
            }
        }
        return deepest;
    }

    private static int count(String code, String pattern) {
        Matcher found = Pattern.compile(pattern).matcher(code);
        int many = 0;
        while (found.find()) {
            many++;
        }
        return many;
    }
}
