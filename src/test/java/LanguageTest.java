import java.io.IOException;
import java.lang.reflect.Constructor;
import java.lang.reflect.Field;
import java.lang.reflect.Method;
import java.lang.reflect.Modifier;
import java.nio.charset.StandardCharsets;
import java.nio.file.Files;
import java.nio.file.Path;
import java.util.ArrayList;
import java.util.Arrays;
import java.util.HashSet;
import java.util.List;
import java.util.Set;
import java.util.TreeSet;
import java.util.regex.Matcher;
import java.util.regex.Pattern;

/** The face, and those rules of LANGUAGE.md that can be seen from the source's words. */
public final class LanguageTest {
    private static final String SOURCE = "src/main/java/CarriedSets.java";
    private static final Set<String> FACE = Set.of(
        "int points(int)", "int moves(int)", "int drops(int)", "int order()", "int of(int,int)", "int number(int)",
        "int element(int)", "int image(int,int)", "int least(int)", "int images(int,int)", "int carrier(int,int)",
        "int holds(int)", "int heads(int,int)", "int head(int)", "int type(int)", "int clear()", "int reads()", "int back()",
        "int told(int)", "long digest()");
    private static final String[] FORBIDDEN = {"throw", "throws", "try", "catch", "finally", "synchronized", "assert", "->", "::",
        "Exact", "hashCode", "toString", "System.currentTimeMillis", "System.nanoTime", "Random", "Thread", "var", "native",
        "abstract", "protected", "package", "static {", "new Object", "getClass"};
    private static final List<String> wrong = new ArrayList<>();

    public static void main(String[] args) throws IOException {
        face();
        members();
        words(Files.readString(Path.of(SOURCE), StandardCharsets.ISO_8859_1));
        for (String line : wrong) {
            System.out.println(line);
        }
        if (!wrong.isEmpty()) {
            System.exit(1);
        }
        System.out.println("LanguageTest: the face and the words are as told");
    }

    private static void face() {
        Set<String> seen = new TreeSet<>();
        for (Method m : CarriedSets.class.getDeclaredMethods()) {
            String types = String.join(",", Arrays.stream(m.getParameterTypes()).map(Class::getName).toArray(String[]::new));
            String told = m.getReturnType() + " " + m.getName() + "(" + types + ")";
            if (Modifier.isPublic(m.getModifiers()) && !Modifier.isStatic(m.getModifiers())) {
                seen.add(told);
            } else if (!Modifier.isPrivate(m.getModifiers())) {
                wrong.add("not private: " + told);
            }
        }
        if (!seen.equals(new TreeSet<>(FACE))) {
            wrong.add("the face is " + seen);
        }
        int access = CarriedSets.class.getModifiers();
        if (!Modifier.isPublic(access) || !Modifier.isFinal(access)) {
            wrong.add("the class is not public and final");
        }
    }

    private static void members() {
        Set<String> open = new TreeSet<>();
        for (Field f : CarriedSets.class.getDeclaredFields()) {
            if (!Modifier.isPrivate(f.getModifiers())) {
                open.add(Modifier.toString(f.getModifiers()) + " " + f.getType() + " " + f.getName());
            }
        }
        Set<String> due = new TreeSet<>();
        for (String name : new String[] {"NONE", "BAD", "NO", "FULL"}) {
            due.add("public static final int " + name);
        }
        if (!open.equals(due)) {
            wrong.add("open fields: " + open);
        }
        Constructor<?>[] made = CarriedSets.class.getDeclaredConstructors();
        if (made.length != 1 || made[0].getParameterCount() != 0 || !Modifier.isPublic(made[0].getModifiers())) {
            wrong.add("the constructors are not as told");
        }
        Set<String> names = new HashSet<>();
        for (String told : FACE) {
            names.add(told.substring(told.indexOf(' ') + 1, told.indexOf('(')));
        }
        Class<?>[] inside = CarriedSets.class.getDeclaredClasses();
        if (inside.length > 11) {
            wrong.add("too many classes");
        }
        for (Class<?> c : inside) {
            inside(c, names);
        }
    }

    private static void inside(Class<?> c, Set<String> names) {
        if (!Modifier.isStatic(c.getModifiers())) {
            wrong.add(c + " is not static");
        }
        for (Method m : c.getDeclaredMethods()) {
            if (names.contains(m.getName()) || m.getParameterCount() > 7) {
                wrong.add(c + ": " + m.getName());
            }
        }
        for (Field f : c.getDeclaredFields()) {
            if (Modifier.isStatic(f.getModifiers()) && !Modifier.isFinal(f.getModifiers())) {
                wrong.add(c + ": static " + f.getName());
            }
        }
    }

    private static void words(String source) {
        String bare = source.replaceAll("(?s)/\\*.*?\\*/", "").replaceAll("//[^\n]*", "");
        for (String word : FORBIDDEN) {
            String edge = Character.isLetter(word.charAt(0)) && !word.equals("Exact") ? "\\b" : "";
            Matcher found = Pattern.compile(edge + Pattern.quote(word) + (edge.isEmpty() || word.endsWith("{") ? "" : edge)).matcher(bare);
            if (found.find()) {
                wrong.add("the source has: " + word);
            }
        }
        Matcher imports = Pattern.compile("import ([^;]+);").matcher(bare);
        while (imports.find()) {
            if (!Set.of("java.util.Arrays", "java.util.ArrayList", "java.util.List").contains(imports.group(1))) {
                wrong.add("the source imports " + imports.group(1));
            }
        }
    }
}
