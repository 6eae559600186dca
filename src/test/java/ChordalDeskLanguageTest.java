import java.lang.reflect.Constructor;
import java.lang.reflect.Field;
import java.lang.reflect.Method;
import java.lang.reflect.Modifier;
import java.nio.file.Files;
import java.nio.file.Path;
import java.util.ArrayDeque;
import java.util.HashMap;
import java.util.HashSet;
import java.util.Map;
import java.util.Set;
import java.util.TreeSet;
import java.util.regex.Matcher;
import java.util.regex.Pattern;

/** The public face of the document, and the rules of LANGUAGE.md that the class and its text show. */
public final class ChordalDeskLanguageTest {
    private static final Path SOURCE = Path.of("src/main/java/ChordalDesk.java");
    private static final int MOST_PARAMETERS = 7;
    private static final int MOST_LINES = 60;
    private static final int MOST_DEEP = 6;
    private static final int MOST_FIELDS = 40;
    private static int wrong = 0;

    public static void main(String[] args) throws Exception {
        face();
        members();
        String code = withoutComments(Files.readString(SOURCE));
        words(code);
        methods(code);
        System.out.println(wrong == 0 ? "the rules are kept" : wrong + " rules are not kept");
        if (wrong != 0) {
            System.exit(1);
        }
    }

    private static void due(String what, Object got, Object want) {
        if (!got.equals(want)) {
            wrong++;
            System.out.println(what + ": got " + got + ", due is " + want);
        }
    }

    private static void face() {
        Set<String> want = new TreeSet<>(Set.of("boolean join(int,int,boolean)", "int neighbours(int)", "int joins()",
            "boolean clique(int)", "boolean neat()", "int easy()", "int core()", "int largestClique()",
            "int fullCliques()"));
        want.addAll(Set.of("int largestApart()", "int colours()", "int orders()", "int smallestHole()",
            "int neatJoins()", "int fill()"));
        Set<String> got = new TreeSet<>();
        for (Method method : ChordalDesk.class.getDeclaredMethods()) {
            if (!Modifier.isPrivate(method.getModifiers())) {
                due("only public beside private: " + method, Modifier.isPublic(method.getModifiers()), true);
                due("not static: " + method, Modifier.isStatic(method.getModifiers()), false);
                StringBuilder types = new StringBuilder();
                for (Class<?> type : method.getParameterTypes()) {
                    types.append(types.length() == 0 ? "" : ",").append(type.getName());
                }
                got.add(method.getReturnType().getName() + " " + method.getName() + "(" + types + ")");
            }
        }
        due("the public methods", got, want);
        Constructor<?>[] constructors = ChordalDesk.class.getDeclaredConstructors();
        due("the number of constructors", constructors.length, 1);
        due("the constructor is public", Modifier.isPublic(constructors[0].getModifiers()), true);
        due("the constructor's parameters", constructors[0].getParameterCount(), 0);
        due("the class is public and final", ChordalDesk.class.getModifiers(), Modifier.PUBLIC | Modifier.FINAL);
        due("nested classes", ChordalDesk.class.getDeclaredClasses().length, 0);
        due("no package", ChordalDesk.class.getPackageName(), "");
    }

    private static void members() throws Exception {
        int fields = 0;
        for (Field field : ChordalDesk.class.getDeclaredFields()) {
            boolean isStatic = Modifier.isStatic(field.getModifiers());
            fields += isStatic ? 0 : 1;
            if (isStatic) {
                due("a constant: " + field, Modifier.isFinal(field.getModifiers()), true);
                due("int or long: " + field, field.getType() == int.class || field.getType() == long.class, true);
            }
            due("private but for NONE: " + field, Modifier.isPrivate(field.getModifiers()), !field.getName().equals("NONE"));
        }
        due("NONE is public", Modifier.isPublic(ChordalDesk.class.getField("NONE").getModifiers()), true);
        due("at most " + MOST_FIELDS + " fields", fields <= MOST_FIELDS, true);
        Set<String> publicNames = new HashSet<>();
        for (Method method : ChordalDesk.class.getMethods()) {
            publicNames.add(method.getName());
        }
        for (Method method : ChordalDesk.class.getDeclaredMethods()) {
            boolean isPrivate = Modifier.isPrivate(method.getModifiers());
            due("a name of its own: " + method, isPrivate && publicNames.contains(method.getName()), false);
            due("few parameters: " + method, method.getParameterCount() <= MOST_PARAMETERS, true);
            due("answers no array: " + method, method.getReturnType().isArray(), false);
        }
    }

    private static String withoutComments(String text) {
        return text.replaceAll("(?s)/\\*.*?\\*/", "").replaceAll("//[^\\n]*", "");
    }

    private static void words(String code) {
        String[] ruledOut = {"import", "package", "float", "double", "String", "Math", "Integer", "System", "Arrays",
            "null", "throw", "throws", "try", "catch", "synchronized", "assert", "instanceof", "enum", "record",
            "interface", "Object", "var"};
        for (String word : ruledOut) {
            due("the word " + word, Pattern.compile("\\b" + word + "\\b").matcher(code).find(), false);
        }
        due("lambda or method reference", code.contains("->") || code.contains("::"), false);
        Matcher made = Pattern.compile("(.*)\\bnew\\b(.*)").matcher(code);
        while (made.find()) {
            boolean inField = made.group(1).matches("    private final (int|long|short|byte|char|boolean)\\[\\] \\w+ = ");
            due("made in a field's initialiser: " + made.group(), inField, true);
            due("of a constant length: " + made.group(), made.group(2).matches(" \\w+\\[[A-Z0-9_]+\\];"), true);
        }
    }

    private static void methods(String code) {
        Map<String, String> bodies = new HashMap<>();
        Matcher head = Pattern.compile("(?ms)^    (?:public|private) (?:static )?\\w+ (\\w+)\\([^)]*\\) \\{\\n(.*?)^    \\}").matcher(code);
        while (head.find()) {
            bodies.put(head.group(1), head.group(2));
            due("a short method: " + head.group(1), head.group(2).lines().count() <= MOST_LINES, true);
        }
        due("methods found in the text", bodies.size(), ChordalDesk.class.getDeclaredMethods().length);
        Map<String, Set<String>> calls = new HashMap<>();
        for (String name : bodies.keySet()) {
            calls.put(name, callsIn(bodies.get(name), bodies.keySet()));
        }
        for (String name : bodies.keySet()) {
            due("calls from " + name + " go at most " + MOST_DEEP + " deep", depth(name, calls) <= MOST_DEEP, true);
        }
    }

    private static Set<String> callsIn(String body, Set<String> names) {
        Set<String> called = new HashSet<>();
        ArrayDeque<Boolean> open = new ArrayDeque<>();
        Matcher part = Pattern.compile("(\\b\\w+)?\\s*\\(|\\)").matcher(body);
        while (part.find()) {
            if (part.group().equals(")")) {
                open.pop();
            } else {
                boolean isCall = part.group(1) != null && names.contains(part.group(1));
                if (isCall) {
                    called.add(part.group(1));
                    due("no call inside the arguments of another: " + part.group(1), open.contains(true), false);
                }
                open.push(isCall);
            }
        }
        return called;
    }

    /** The methods on the longest way down, this one counted; a ring of calls shows as more than there are methods. */
    private static int depth(String name, Map<String, Set<String>> calls) {
        Set<String> level = Set.of(name);
        int deep = 0;
        while (!level.isEmpty() && deep <= calls.size()) {
            Set<String> below = new HashSet<>();
            for (String caller : level) {
                below.addAll(calls.get(caller));
            }
            level = below;
            deep++;
        }
        return deep;
    }
}
