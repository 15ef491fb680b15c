import java.io.IOException;
import java.lang.reflect.Constructor;
import java.lang.reflect.Field;
import java.lang.reflect.Method;
import java.lang.reflect.Modifier;
import java.nio.file.Files;
import java.nio.file.Path;
import java.util.Arrays;
import java.util.HashSet;
import java.util.List;
import java.util.Set;
import java.util.TreeSet;
import java.util.regex.Matcher;
import java.util.regex.Pattern;

/** The rules of LANGUAGE.md as far as they can be read off the class and its source. */
public final class LanguageTests {
    private static final Path SOURCE = Path.of("src/main/java/TableLearner.java");

    private static final List<String> FACE = List.of(
            "int accepts()", "int ask()", "int begin(int,int)", "int cell(int,int,int)",
            "int clearText()", "int count(int)", "int counterexample(int)", "int difference(int)",
            "int distinguish(int,int,int)", "int guess()", "int hypothesis(int,int)",
            "int learn(int)", "int leastStates()", "int lie()", "int reset(int,int)",
            "int restore(int)", "int save(int)", "int setFinal(int,boolean)",
            "int setMove(int,int,int)", "int state(int,int)", "int step()", "int type(int)",
            "int word(boolean,int,int)", "long digest()");

    private static int wrong = 0;

    public static void main(String[] args) throws IOException {
        face();
        classesInside();
        source();
        room();
        System.out.println(wrong == 0 ? "all rules are kept" : wrong + " rules are not kept");
        if (wrong != 0) System.exit(1);
    }

    private static void check(boolean holds, String what) {
        if (!holds) {
            wrong++;
            System.out.println("not kept: " + what);
        }
    }

    private static void face() {
        Class<?> type = TableLearner.class;
        check(Modifier.isPublic(type.getModifiers()) && Modifier.isFinal(type.getModifiers()),
                "rule 1: public and final");
        Set<String> methods = new TreeSet<>();
        Set<String> publicNames = new HashSet<>();
        for (Method m : type.getDeclaredMethods()) {
            if (Modifier.isPrivate(m.getModifiers())) continue;
            check(Modifier.isPublic(m.getModifiers()) && !Modifier.isStatic(m.getModifiers()),
                    "rule 1: " + m);
            String arguments = Arrays.toString(Arrays.stream(m.getParameterTypes())
                    .map(Class::getName).toArray()).replace(" ", "");
            methods.add(m.getReturnType() + " " + m.getName()
                    + "(" + arguments.substring(1, arguments.length() - 1) + ")");
            publicNames.add(m.getName());
        }
        check(methods.equals(new TreeSet<>(FACE)), "rule 1: the face is " + methods);
        for (Method m : type.getDeclaredMethods()) {
            check(!Modifier.isPrivate(m.getModifiers()) || !publicNames.contains(m.getName()),
                    "rule 1: a private method named " + m.getName());
        }
        Set<String> constants = new TreeSet<>();
        for (Field f : type.getDeclaredFields()) {
            if (!Modifier.isPrivate(f.getModifiers())) constants.add(f.getName());
        }
        check(constants.equals(new TreeSet<>(List.of("BAD", "STATE", "OUT", "FULL", "NONE"))),
                "rule 1: the constants are " + constants);
        Constructor<?>[] constructors = type.getDeclaredConstructors();
        check(constructors.length == 1 && Modifier.isPublic(constructors[0].getModifiers())
                && constructors[0].getParameterCount() == 0, "rule 1: the constructor");
    }

    private static void classesInside() {
        Class<?>[] inside = TableLearner.class.getDeclaredClasses();
        check(inside.length <= 11, "rule 11: some twelve classes");
        for (Class<?> c : inside) {
            check(Modifier.isStatic(c.getModifiers()) && !Modifier.isPublic(c.getModifiers())
                    && !Modifier.isProtected(c.getModifiers()), "rules 1 and 2: " + c);
            check(c.getDeclaredClasses().length == 0, "classes inside " + c);
            fields(c);
        }
        fields(TableLearner.class);
    }

    private static void fields(Class<?> c) {
        int held = 0;
        for (Field f : c.getDeclaredFields()) {
            if (!Modifier.isStatic(f.getModifiers())) {
                held++;
                continue;
            }
            check(Modifier.isFinal(f.getModifiers()), "rule 5: " + f);
            check(f.getType() == int.class || f.getType() == long.class, "rule 5: " + f);
        }
        check(held <= 20, "rule 11: the fields of " + c);
        for (Method m : c.getDeclaredMethods()) {
            check(m.getParameterCount() <= 7, "rule 11: the parameters of " + m);
        }
    }

    private static void source() throws IOException {
        String text = Files.readString(SOURCE);
        check(text.chars().allMatch(c -> c < 128), "rule 4: other signs");
        String code = text.replaceAll("(?s)/\\*.*?\\*/", "").replaceAll("//[^\n]*", "");
        for (String word : List.of("throw", "throws", "try", "catch", "finally", "synchronized",
                "assert", "package", "Object", "Exception", "hashCode", "toString", "equals",
                "double", "float", "volatile", "transient", "native")) {
            check(!Pattern.compile("\\b" + word + "\\b").matcher(code).find(), "rule 6: " + word);
        }
        check(!code.contains("->") && !code.contains("::"), "rule 2: a lambda or a method reference");
        check(!code.contains("Exact"), "rule 4: Exact");
        Matcher imports = Pattern.compile("import ([^;]*);").matcher(code);
        while (imports.find()) {
            check(imports.group(1).equals("java.util.Arrays"), "rule 4: import " + imports.group(1));
        }
        Matcher library = Pattern.compile("\\b(Arrays|Math|System|Integer|Long)\\.(\\w+)").matcher(code);
        while (library.find()) {
            check(List.of("Arrays.fill", "Math.max", "System.arraycopy").contains(library.group()),
                    "rule 4: " + library.group());
        }
        methodLengths(text);
    }

    private static void methodLengths(String text) {
        String[] lines = text.split("\n");
        int begun = -1;
        for (int i = 0; i < lines.length; i++) {
            if (lines[i].matches(" {4}( {4})?\\w[^=;]*\\) \\{")) begun = i;
            if (lines[i].matches(" {4}( {4})?\\}") && begun >= 0) {
                check(i - begun < 60, "rule 11: a long method at line " + (begun + 1));
                begun = -1;
            }
        }
    }

    /** One room for all calls of a run: the dearest calls make no objects of their own. */
    private static void room() {
        com.sun.management.ThreadMXBean bean =
                (com.sun.management.ThreadMXBean) java.lang.management.ManagementFactory.getThreadMXBean();
        dearCalls();
        long before = bean.getCurrentThreadAllocatedBytes();
        dearCalls();
        long bytes = bean.getCurrentThreadAllocatedBytes() - before;
        check(bytes < 200_000, "512 calls made " + bytes + " bytes of objects");
    }

    private static void dearCalls() {
        TableLearner x = new TableLearner();
        x.reset(8, 3);
        for (int s = 0; s < 8; s++) {
            for (int a = 0; a < 3; a++) {
                x.setMove(s, a, (s + 1 + a) % 8);
            }
        }
        x.setFinal(7, true);
        for (int i = 0; i < 80; i++) {
            x.begin(i % 3, 300);
            x.learn(1000);
            x.digest();
            x.save(i % 2);
            x.restore(i % 2);
            x.difference(-1);
        }
    }
}
