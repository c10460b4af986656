import java.lang.reflect.Constructor;
import java.lang.reflect.Field;
import java.lang.reflect.Method;
import java.lang.reflect.Modifier;
import java.nio.file.Files;
import java.nio.file.Path;
import java.util.List;
import java.util.Set;
import java.util.TreeSet;
import java.util.regex.Matcher;
import java.util.regex.Pattern;

/** The class's face is the document's and no more, and its text has none of the words that LANGUAGE.md rules out. */
public final class FaceTest {
    private static final Set<String> METHODS = Set.of(
            "int put(int,int,int,int)", "int drop(int)", "int cross(int)", "int told(int,int)", "int free(int,int)",
            "int set(int,int)", "long value(int)", "int sight(int)", "int plan(int,int,int)",
            "int place(int,int,int,int)", "int step(int,int,int,int)", "int run(int,int)", "int weight(int,int)",
            "int taken(int,int)", "int exchange(int,int)", "int hand(int)", "int count(int)", "int image(int)",
            "int restore(int)");
    private static final Set<String> FIELDS = Set.of("int UNKNOWN", "int OUTSIDE", "int STATE", "int FULL", "int NO",
            "int NONE", "long GONE");

    private static final Set<String> IMPORTS = Set.of("java.util.Arrays", "java.util.ArrayList", "java.util.List",
            "java.util.Iterator");

    private static int wrong = 0;

    private static void check(boolean holds, String what) {
        if (!holds) {
            wrong++;
            System.out.println(what);
        }
    }

    public static void main(String[] args) throws Exception {
        members();
        classesInside();
        words();
        lengths();
        System.out.println(wrong == 0 ? "the face is as told" : wrong + " faults of the face");
        if (wrong != 0) {
            System.exit(1);
        }
    }

    private static void members() {
        Class<?> it = StepRegisters.class;
        check(Modifier.isPublic(it.getModifiers()) && Modifier.isFinal(it.getModifiers()), "not public and final");
        Set<String> methods = new TreeSet<>();
        for (Method m : it.getDeclaredMethods()) {
            if (!m.isSynthetic() && !Modifier.isPrivate(m.getModifiers())) {
                StringBuilder types = new StringBuilder();
                for (Class<?> type : m.getParameterTypes()) {
                    types.append(types.length() == 0 ? "" : ",").append(type);
                }
                methods.add(m.getReturnType() + " " + m.getName() + "(" + types + ")");
            }
        }
        check(methods.equals(METHODS), "methods: " + methods);
        Set<String> fields = new TreeSet<>();
        for (Field f : it.getDeclaredFields()) {
            if (!f.isSynthetic() && !Modifier.isPrivate(f.getModifiers())) {
                fields.add(f.getType() + " " + f.getName());
                check(f.getModifiers() == (Modifier.PUBLIC | Modifier.STATIC | Modifier.FINAL), "not a constant: " + f);
            }
        }
        check(fields.equals(FIELDS), "fields: " + fields);
        Constructor<?>[] constructors = it.getDeclaredConstructors();
        check(constructors.length == 1 && constructors[0].getParameterCount() == 0, "another constructor");
    }

    private static void classesInside() {
        Set<String> faces = new TreeSet<>();
        for (Method m : StepRegisters.class.getDeclaredMethods()) {
            if (Modifier.isPublic(m.getModifiers())) {
                faces.add(m.getName());
            }
        }
        Class<?>[] inside = StepRegisters.class.getDeclaredClasses();
        check(inside.length < 12, "rule 11: too many classes");
        limits(StepRegisters.class, faces);
        for (Class<?> it : inside) {
            check(Modifier.isStatic(it.getModifiers()), "rule 2: not static: " + it);
            check((it.getModifiers() & (Modifier.PUBLIC | Modifier.PROTECTED)) == 0, "rule 1: too open: " + it);
            check(it.getDeclaredClasses().length == 0, "a class inside one that is inside: " + it);
            limits(it, faces);
        }
    }

    private static void limits(Class<?> it, Set<String> faces) {
        int fields = 0;
        for (Field f : it.getDeclaredFields()) {
            boolean fixed = Modifier.isStatic(f.getModifiers());
            check(!fixed || Modifier.isFinal(f.getModifiers()), "rule 5: not final: " + f);
            check(!fixed || f.getType().isPrimitive(), "rule 5: no plain constant: " + f);
            fields += fixed ? 0 : 1;
        }
        check(fields <= 20, "rule 11: too many fields: " + it);
        for (Method m : it.getDeclaredMethods()) {
            check(m.getParameterCount() <= 7, "rule 11: too many parameters: " + m);
            check(!Modifier.isPrivate(m.getModifiers()) || !faces.contains(m.getName()), "rule 1: name of " + m);
        }
    }

    private static void words() throws Exception {
        String text = Files.readString(Path.of("src/main/java/StepRegisters.java"));
        String code = text.replaceAll("(?s)/\\*.*?\\*/", "").replaceAll("//[^\n]*", "");
        Matcher found = Pattern.compile("\\b(throw|throws|try|catch|synchronized|assert|package|\\w+Exact)\\b|->|::")
                .matcher(code);
        while (found.find()) {
            check(false, "ruled out: " + found.group());
        }
        check(text.chars().allMatch(c -> c < 128), "a sign beyond 127");
        Matcher imports = Pattern.compile("(?m)^import ([^;]*);").matcher(code);
        while (imports.find()) {
            check(IMPORTS.contains(imports.group(1)), "rule 4: import of " + imports.group(1));
        }
    }

    /** A method begins with a line that ends in ") {" at its class's depth, and ends with a brace at the same depth. */
    private static void lengths() throws Exception {
        List<String> lines = Files.readAllLines(Path.of("src/main/java/StepRegisters.java"));
        int methods = 0;
        for (int start = 0; start < lines.size(); start++) {
            Matcher head = Pattern.compile("( {4}| {8})[\\w<].*\\) \\{").matcher(lines.get(start));
            if (head.matches() && !lines.get(start).trim().matches("(if|for|while|switch)\\b.*")) {
                int end = start + 1;
                while (end < lines.size() && !lines.get(end).equals(head.group(1) + "}")) {
                    end++;
                }
                methods++;
                check(end - start < 60, "rule 11: too long: " + lines.get(start).trim());
            }
        }
        check(methods > METHODS.size(), "methods are not found in the text");
    }
}
