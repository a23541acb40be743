import java.lang.reflect.Constructor;
import java.lang.reflect.Field;
import java.lang.reflect.Method;
import java.lang.reflect.Modifier;
import java.nio.file.Files;
import java.nio.file.Path;
import java.util.Set;
import java.util.TreeSet;
import java.util.regex.Matcher;
import java.util.regex.Pattern;

// The public face of the class, and those rules of LANGUAGE.md that can be read off it or its source.
public final class FaceTest {
    private static final Path SOURCE = Path.of("src/main/java/PatternTrees.java");
    private static int wrong = 0;

    public static void main(String[] args) throws Exception {
        face();
        fields();
        methods();
        words();
        System.out.println(wrong == 0 ? "the face is as due" : wrong + " things are not as due");
        if (wrong != 0) {
            System.exit(1);
        }
    }

    private static void due(String what, boolean holds) {
        if (!holds) {
            wrong++;
            System.out.println("not as due: " + what);
        }
    }

    private static void face() throws Exception {
        Class<?> c = PatternTrees.class;
        due("a public final class", c.getModifiers() == (Modifier.PUBLIC | Modifier.FINAL));
        due("no package, no outer class", c.getPackageName().isEmpty() && c.getEnclosingClass() == null);
        due("no nested class", c.getDeclaredClasses().length == 0);
        due("no superclass or interface", c.getSuperclass() == Object.class && c.getInterfaces().length == 0);
        Constructor<?>[] made = c.getDeclaredConstructors();
        due("one public constructor without parameters",
            made.length == 1 && Modifier.isPublic(made[0].getModifiers()) && made[0].getParameterCount() == 0);
        Set<String> wanted = Set.of("constant/1", "one/1", "two/2", "equate/2", "leader/1", "classes/0", "token/1",
            "wipe/0", "matches/0", "matchesAt/1", "binding/2", "clear/0");
        Set<String> found = new TreeSet<>();
        for (Method m : c.getDeclaredMethods()) {
            if (!Modifier.isPrivate(m.getModifiers())) {
                found.add(m.getName() + "/" + m.getParameterCount());
                due("public int " + m, m.getModifiers() == Modifier.PUBLIC && m.getReturnType() == int.class);
                for (Class<?> p : m.getParameterTypes()) {
                    due("int parameters of " + m, p == int.class);
                }
            }
        }
        due("the methods of the document and no others: " + found, found.equals(wanted));
    }

    private static void fields() throws Exception {
        Set<String> open = new TreeSet<>();
        int objectFields = 0;
        for (Field f : PatternTrees.class.getDeclaredFields()) {
            int m = f.getModifiers();
            if (!Modifier.isPrivate(m)) {
                open.add(f.getName());
                due("public static final int " + f, Modifier.isPublic(m) && Modifier.isStatic(m));
            }
            Class<?> t = f.getType();
            if (Modifier.isStatic(m)) {
                due("a constant of int or long: " + f, Modifier.isFinal(m) && (t == int.class || t == long.class));
            } else {
                objectFields++;
                Class<?> element = t.isArray() ? t.getComponentType() : t;
                due("a number, a boolean or a flat array: " + f,
                    element.isPrimitive() && element != float.class && element != double.class);
            }
        }
        due("the constants of the document and no others: " + open, open.equals(Set.of("BAD", "FULL", "NONE")));
        due("at most forty fields", objectFields <= 40);
        due("BAD is -1, FULL is -2, NONE is -3",
            PatternTrees.BAD == -1 && PatternTrees.FULL == -2 && PatternTrees.NONE == -3);
    }

    private static void methods() {
        Set<String> names = new TreeSet<>();
        for (Method m : PatternTrees.class.getDeclaredMethods()) {
            due("one method of the name " + m.getName(), names.add(m.getName()));
            due("at most seven parameters: " + m, m.getParameterCount() <= 7);
            due("answers no array: " + m, m.getReturnType().isPrimitive());
        }
    }

    private static void words() throws Exception {
        String code = Files.readString(SOURCE).replaceAll("//[^\n]*", "").replaceAll("(?s)/\\*.*?\\*/", "");
        String[] ruledOut = {
            "import", "package", "throw", "throws", "try", "catch", "synchronized", "assert", "instanceof", "null",
            "float", "double", "String", "Math", "Integer", "Long", "System", "Arrays", "Object", "protected", "var",
            "enum", "record", "interface", "native", "volatile", "super",
        };
        for (String word : ruledOut) {
            due("without the word " + word, !Pattern.compile("\\b" + word + "\\b").matcher(code).find());
        }
        due("without lambdas, method references, strings and annotations", !Pattern.compile("->|::|\"|@").matcher(code).find());

        // Arrays are made in the fields' initialisers, one a line, and nowhere else.
        int made = 0;
        Matcher news = Pattern.compile("\\bnew\\b").matcher(code);
        while (news.find()) {
            made++;
        }
        Matcher fieldArrays = Pattern.compile("(?m)^    private final int\\[\\] \\w+ = new int\\[[A-Z_]+\\];$").matcher(code);
        while (fieldArrays.find()) {
            made--;
        }
        due("every new stands in a field's initialiser", made == 0);

        // A body ends at the closing brace that is indented as its head.
        Matcher bodies = Pattern.compile("(?ms)^    (?:public|private) [^;={]*\\{$.*?^    \\}$").matcher(code);
        int count = 0;
        while (bodies.find()) {
            count++;
            due("at most sixty lines: " + bodies.group().lines().findFirst(), bodies.group().lines().count() <= 60);
        }
        due("the bodies of all methods were looked at",
            count == PatternTrees.class.getDeclaredMethods().length + 1);
    }
}
