import java.lang.reflect.Constructor;
import java.lang.reflect.Field;
import java.lang.reflect.Member;
import java.lang.reflect.Method;
import java.lang.reflect.Modifier;
import java.nio.file.Files;
import java.nio.file.Path;
import java.util.Arrays;
import java.util.HashMap;
import java.util.List;
import java.util.Map;
import java.util.Set;
import java.util.TreeSet;
import java.util.regex.Matcher;
import java.util.regex.Pattern;

/** The public face of the class, and those rules of LANGUAGE.md that a look at its text can tell. */
public final class FaceTest {
    private static final String[] METHODS = {
        "int table(int,int)", "int row(int,int,int,int)", "int fill(int,int,int,int)", "int drop(int,int)",
        "int sort(int,int)", "int get(int,int,int)", "int about(int,int)", "int unlike(int,int)",
        "int rule(int,int)", "int size(int,int)", "int pages(int,int)", "int joined(int,int,int)",
        "int value(int,int,int)", "int idle(int,int)", "int letters(long)", "int blank()", "int good()",
        "int plan(int,int)", "int best(int,int,int,int)", "int sign(int,int,int,int,int)",
        "int regret(int,int)", "int hangs(int)", "int goes(int,int)", "int on(int,int)", "int left(int,int)",
        "int steps(int)", "int cover(int)", "int count(int)", "long digest()",
    };
    private static final String[] CONSTANTS = {"NONE", "UNKNOWN", "OUTSIDE", "STATE", "FULL"};
    private static final int[] NUMBERS = {-1, -101, -102, -103, -104};
    private static final Set<String> LIBRARY = Set.of("Integer.bitCount", "Integer.numberOfTrailingZeros",
            "Math.min", "Arrays.fill");
    private static int wrong = 0;

    public static void main(String[] args) throws Exception {
        constants();
        constructors();
        methods();
        nestedClasses();
        String text = Files.readString(Path.of("src/main/java/JoinWays.java"));
        source(text);
        methodsAreShort(text);
        System.out.println(wrong == 0 ? "the face is as told" : wrong + " faults");
        System.exit(wrong == 0 ? 0 : 1);
    }

    private static void must(boolean holds, String what) {
        if (!holds) {
            wrong++;
            System.out.println(what);
        }
    }

    private static boolean isPrivate(Member member) {
        return Modifier.isPrivate(member.getModifiers()) || member.isSynthetic();
    }

    private static void constants() throws Exception {
        must(Modifier.isPublic(JoinWays.class.getModifiers()), "the class is not public");
        must(Modifier.isFinal(JoinWays.class.getModifiers()), "the class is not final");
        for (int i = 0; i < CONSTANTS.length; i++) {
            Field field = JoinWays.class.getField(CONSTANTS[i]);
            int all = Modifier.PUBLIC | Modifier.STATIC | Modifier.FINAL;
            must(field.getModifiers() == all && field.getType() == int.class, CONSTANTS[i] + " is not as told");
            must(field.getInt(null) == NUMBERS[i], CONSTANTS[i] + " is " + field.getInt(null));
        }
        for (Field field : JoinWays.class.getDeclaredFields()) {
            boolean told = Arrays.asList(CONSTANTS).contains(field.getName());
            must(told || isPrivate(field), "a field that can be seen: " + field);
        }
    }

    private static void constructors() {
        Constructor<?>[] all = JoinWays.class.getDeclaredConstructors();
        must(all.length == 1 && all[0].getModifiers() == Modifier.PUBLIC && all[0].getParameterCount() == 0,
                "the constructor is not as told");
    }

    private static void methods() {
        Set<String> seen = new TreeSet<>();
        Set<String> names = new TreeSet<>();
        for (String method : METHODS) {
            names.add(method.substring(method.indexOf(' ') + 1, method.indexOf('(')));
        }
        for (Method method : JoinWays.class.getDeclaredMethods()) {
            if (isPrivate(method)) {
                must(!names.contains(method.getName()), "a private method has a public name: " + method);
                continue;
            }
            StringBuilder text = new StringBuilder(method.getReturnType() + " " + method.getName() + "(");
            for (Class<?> type : method.getParameterTypes()) {
                text.append(text.charAt(text.length() - 1) == '(' ? "" : ",").append(type);
            }
            seen.add(text.append(")").toString());
            must(method.getModifiers() == Modifier.PUBLIC, "not just public: " + method);
        }
        must(seen.equals(new TreeSet<>(List.of(METHODS))), "the methods are " + seen);
        for (Class<?> nested : JoinWays.class.getDeclaredClasses()) {
            for (Method method : nested.getDeclaredMethods()) {
                must(!names.contains(method.getName()), "a method inside has a public name: " + method);
            }
        }
    }

    private static void nestedClasses() {
        Class<?>[] nested = JoinWays.class.getDeclaredClasses();
        must(nested.length <= 11, "there are " + nested.length + " classes inside");
        for (Class<?> one : nested) {
            int modifiers = one.getModifiers();
            must(Modifier.isStatic(modifiers) && !Modifier.isPublic(modifiers) && !Modifier.isProtected(modifiers),
                    "not a static class that is hidden: " + one);
            long fields = Arrays.stream(one.getDeclaredFields()).filter(f -> !Modifier.isStatic(f.getModifiers())).count();
            must(fields <= 20, one + " has " + fields + " fields");
            for (Field field : one.getDeclaredFields()) {
                must(!Modifier.isStatic(field.getModifiers()) || Modifier.isFinal(field.getModifiers()),
                        "a static field that is not final: " + field);
            }
        }
    }

    private static String withoutComments(String text) {
        return text.replaceAll("(?s)/\\*.*?\\*/", "").replaceAll("//[^\n]*", "");
    }

    /** Methods by their names alone: those that bear one name in several classes are taken as one. */
    private static void methodsAreShort(String text) {
        String code = withoutComments(text);
        Map<String, String> bodies = new HashMap<>();
        Matcher heads = Pattern.compile("(?m)^ +(?:(?:public|private|static|final) )*(?:int|long|boolean|void|int\\[\\]) (\\w+)\\(([^)]*)\\) \\{")
                .matcher(code);
        while (heads.find()) {
            int end = heads.end();
            for (int open = 1; open > 0; end++) {
                open += code.charAt(end) == '{' ? 1 : code.charAt(end) == '}' ? -1 : 0;
            }
            String body = code.substring(heads.end(), end);
            must(body.lines().count() <= 60, heads.group(1) + " is long");
            must(heads.group(2).split(",").length <= 7, heads.group(1) + " has many parameters");
            bodies.merge(heads.group(1), body, String::concat);
        }
        must(bodies.size() > METHODS.length, "methods were not found");
        for (String name : bodies.keySet()) {
            must(depth(name, bodies, 1) <= 8, name + " calls deeper than eight");
        }
    }

    private static int depth(String name, Map<String, String> bodies, int at) {
        int deepest = at;
        Matcher calls = Pattern.compile("(?<!Arrays\\.)\\b(\\w+)\\(").matcher(bodies.get(name));
        while (calls.find() && deepest < 20) {
            String called = calls.group(1);
            if (bodies.containsKey(called) && !called.equals(name)) {
                deepest = Math.max(deepest, depth(called, bodies, at + 1));
            }
        }
        return deepest;
    }

    private static void source(String text) {
        must(!Pattern.compile("(?m)^package ").matcher(text).find(), "a package line");
        String code = withoutComments(text);
        for (String word : List.of("throw", "throws", "try", "catch", "synchronized", "assert", "Object", "var",
                "double", "float", "hashCode", "toString", "protected", "Exact")) {
            must(!Pattern.compile("\\b" + word + "\\b").matcher(code).find(), "the word " + word);
        }
        must(!code.contains("->") && !code.contains("::"), "a lambda or a method reference");
        Matcher imports = Pattern.compile("(?m)^import (.*);$").matcher(code);
        while (imports.find()) {
            must(imports.group(1).equals("java.util.Arrays"), "an import of " + imports.group(1));
        }
        Matcher calls = Pattern.compile("\\b(Integer|Long|Math|Arrays|System|Character|String)\\.(\\w+)").matcher(code);
        while (calls.find()) {
            must(LIBRARY.contains(calls.group()), "a call of " + calls.group());
        }
    }
}
