import java.io.IOException;
import java.lang.reflect.Constructor;
import java.lang.reflect.Field;
import java.lang.reflect.Method;
import java.lang.reflect.Modifier;
import java.nio.file.Files;
import java.nio.file.Path;
import java.util.ArrayDeque;
import java.util.ArrayList;
import java.util.Arrays;
import java.util.Deque;
import java.util.HashMap;
import java.util.List;
import java.util.Map;
import java.util.Set;
import java.util.TreeSet;
import java.util.regex.Matcher;
import java.util.regex.Pattern;

// The public face of the document, and those rules of LANGUAGE.md that can be seen in the class
// or in its source.
public final class LanguageTests {
    private static final Path SOURCE = Path.of("src/main/java/PackratGrammar.java");
    private static final Set<String> FACE = new TreeSet<>(Arrays.asList(
        "int put(int, int, int, int)", "boolean define(int)", "int insert(int, int)", "int erase(int)",
        "int change(int, int)", "int letter(int)", "int parse(int, int)", "int nodes()", "int node(int, int)"));
    private static final Set<String> FORBIDDEN = Set.of(
        "import", "package", "throw", "throws", "try", "catch", "finally", "synchronized", "assert",
        "instanceof", "null", "float", "double", "String", "Math", "Integer", "System", "Arrays",
        "Object", "protected", "interface", "enum", "getClass", "hashCode", "equals", "toString", "clone");
    private static final Set<String> NO_CALLS = Set.of("if", "for", "while", "switch", "return", "case");

    private static int wrong = 0;

    public static void main(String[] args) throws IOException {
        members();
        List<String> words = words(Files.readString(SOURCE));
        forbiddenWords(words);
        nestedCalls(words);
        methods(words);
        System.out.println(wrong == 0 ? "the class keeps to its language" : wrong + " breaches");
        if (wrong != 0) {
            System.exit(1);
        }
    }

    private static void members() {
        Class<?> type = PackratGrammar.class;
        check(type.getModifiers() == (Modifier.PUBLIC | Modifier.FINAL), "1: the class is public and final");
        check(type.getDeclaredClasses().length == 0, "1: no nested class");
        check(type.getDeclaredConstructors().length == 1, "1: one constructor");
        for (Constructor<?> made : type.getDeclaredConstructors()) {
            check(made.getModifiers() == Modifier.PUBLIC && made.getParameterCount() == 0, "1: the constructor");
        }
        Set<String> face = new TreeSet<>();
        for (Method method : type.getDeclaredMethods()) {
            if (Modifier.isPrivate(method.getModifiers())) {
                check(FACE.stream().noneMatch(f -> f.contains(" " + method.getName() + "(")), "1: name " + method);
            } else {
                check(method.getModifiers() == Modifier.PUBLIC, "1: modifiers of " + method);
                String parameters = Arrays.toString(method.getParameterTypes());
                face.add(method.getReturnType() + " " + method.getName()
                    + "(" + parameters.substring(1, parameters.length() - 1) + ")");
            }
            check(!method.getReturnType().isArray(), "4: array answered by " + method);
            check(method.getParameterCount() <= 7, "10: parameters of " + method);
        }
        check(face.equals(FACE), "1: the public methods are " + face);
        fields(type);
    }

    private static void fields(Class<?> type) {
        Set<String> open = new TreeSet<>();
        int own = 0;
        for (Field field : type.getDeclaredFields()) {
            Class<?> of = field.getType();
            Class<?> part = of.isArray() ? of.getComponentType() : of;
            check(part.isPrimitive() && part != float.class && part != double.class, "2: type of " + field);
            if (Modifier.isStatic(field.getModifiers())) {
                check(Modifier.isFinal(field.getModifiers()) && (of == int.class || of == long.class), "5: " + field);
            } else {
                own++;
            }
            if (!Modifier.isPrivate(field.getModifiers())) {
                open.add(field.toString().replace("PackratGrammar.", ""));
            }
        }
        check(own <= 40, "10: " + own + " fields");
        check(open.equals(new TreeSet<>(Arrays.asList("public static final int REFUSED",
            "public static final int FAILS", "public static final int STUCK"))), "1: open fields " + open);
        check(PackratGrammar.REFUSED == -1 && PackratGrammar.FAILS == -2 && PackratGrammar.STUCK == -3, "constants");
    }

    private static List<String> words(String source) {
        String bare = source.replaceAll("(?s)/\\*.*?\\*/", " ").replaceAll("//[^\n]*", " ");
        List<String> words = new ArrayList<>();
        Matcher matcher = Pattern.compile("[A-Za-z_$][A-Za-z_$0-9]*|[0-9]+|->|::|\\S").matcher(bare);
        while (matcher.find()) {
            words.add(matcher.group());
        }
        return words;
    }

    // Arrays are made in a field's initialiser, or in the constructor outside its loops and conditions.
    private static void forbiddenWords(List<String> words) {
        int depth = 0;
        boolean inConstructor = false;
        for (int at = 0; at < words.size(); at++) {
            String word = words.get(at);
            depth += word.equals("{") ? 1 : word.equals("}") ? -1 : 0;
            check(!FORBIDDEN.contains(word), "2, 3, 6: the word " + word);
            check(!word.equals("->") && !word.equals("::") && !word.equals("\"") && !word.equals("@"), "6: " + word);
            if (depth == 1 && isCall(words, at)) {
                inConstructor = word.equals("PackratGrammar");
            }
            boolean mayMake = depth == 1 || depth == 2 && inConstructor;
            check(!word.equals("new") || mayMake && words.get(at + 2).equals("["), "4: what is made, and where");
        }
    }

    private static void nestedCalls(List<String> words) {
        Deque<Boolean> open = new ArrayDeque<>();
        for (int at = 0; at < words.size(); at++) {
            if (words.get(at).equals("(")) {
                boolean call = isCall(words, at - 1);
                check(!call || !open.contains(true), "10: " + words.get(at - 1) + " stands in another call");
                open.push(call);
            } else if (words.get(at).equals(")")) {
                open.pop();
            }
        }
    }

    private static boolean isCall(List<String> words, int at) {
        return at >= 0 && words.get(at + 1).equals("(") && !NO_CALLS.contains(words.get(at))
            && Character.isJavaIdentifierStart(words.get(at).charAt(0));
    }

    // Which method calls which, read from the words between the braces of each one.
    private static void methods(List<String> words) {
        Map<String, Set<String>> calls = new HashMap<>();
        String method = "";
        int depth = 0;
        for (int at = 0; at < words.size(); at++) {
            String word = words.get(at);
            depth += word.equals("{") ? 1 : word.equals("}") ? -1 : 0;
            if (depth == 1 && isCall(words, at)) {
                method = word;
                calls.put(method, new TreeSet<>());
            } else if (depth > 1 && isCall(words, at)) {
                calls.get(method).add(word);
            }
        }
        for (String each : calls.keySet()) {
            for (String called : calls.get(each)) {
                check(calls.containsKey(called), "3: " + each + " calls " + called);
            }
            int deep = depthOf(each, calls, 0);
            check(deep <= 6, "8, 10: calls from " + each + " go " + deep + " deep");
        }
    }

    private static int depthOf(String method, Map<String, Set<String>> calls, int above) {
        int deepest = 0;
        if (above > 20) {
            return deepest;
        }
        for (String called : calls.getOrDefault(method, Set.of())) {
            deepest = Math.max(deepest, depthOf(called, calls, above + 1));
        }
        return deepest + 1;
    }

    private static void check(boolean holds, String rule) {
        if (!holds) {
            wrong++;
            System.out.println("rule " + rule);
        }
    }
}
