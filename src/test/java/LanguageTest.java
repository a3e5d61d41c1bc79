import java.io.IOException;
import java.lang.reflect.Constructor;
import java.lang.reflect.Field;
import java.lang.reflect.Method;
import java.lang.reflect.Modifier;
import java.nio.charset.StandardCharsets;
import java.nio.file.Files;
import java.nio.file.Path;
import java.util.ArrayList;
import java.util.Arrays;
import java.util.HashSet;
import java.util.List;
import java.util.Set;
import java.util.TreeSet;
import java.util.regex.Matcher;
import java.util.regex.Pattern;

/** The face, and those rules of LANGUAGE.md that can be seen from the source's words. */
public final class LanguageTest {
    private static final String SOURCE = "src/main/java/CarriedSets.java";
    private static final Set<String> FACE = Set.of(
        "int points(int)", "int moves(int)", "int drops(int)", "int order()", "int of(int,int)", "int number(int)",
        "int element(int)", "int image(int,int)", "int least(int)", "int images(int,int)", "int carrier(int,int)",
        "int holds(int)", "int heads(int,int)", "int head(int)", "int type(int)", "int clear()", "int reads()", "int back()",
        "int told(int)", "long digest()");
    private static final String[] FORBIDDEN = {"throw", "throws", "try", "catch", "finally", "synchronized", "assert", "->", "::",
        "Exact", "hashCode", "toString", "System.currentTimeMillis", "System.nanoTime", "Random", "Thread", "var", "native",
        "abstract", "protected", "package", "static {", "new Object", "getClass"};
    private static final Set<String> LIBRARY = Set.of("Arrays.fill", "Arrays.copyOf", "Arrays.copyOfRange", "System.arraycopy",
        "Integer.bitCount", "Integer.compare", "Long.compare", "Math.max", "Math.min", "Math.abs", "Math.floorDiv", "Math.floorMod");
    private static final int MOST_LINES = 60;
    private static final int MOST_FIELDS = 20;
    private static final List<String> wrong = new ArrayList<>();

    public static void main(String[] args) throws IOException {
        face();
        members();
        String source = Files.readString(Path.of(SOURCE), StandardCharsets.ISO_8859_1);
        words(source);
        lengths(source.split("\n"));
        for (String line : wrong) {
            System.out.println(line);
        }
        if (!wrong.isEmpty()) {
            System.exit(1);
        }
        System.out.println("LanguageTest: the face and the words are as told");
    }

    private static void face() {
        Set<String> seen = new TreeSet<>();
        for (Method m : CarriedSets.class.getDeclaredMethods()) {
            String types = String.join(",", Arrays.stream(m.getParameterTypes()).map(Class::getName).toArray(String[]::new));
            String told = m.getReturnType() + " " + m.getName() + "(" + types + ")";
            if (Modifier.isPublic(m.getModifiers()) && !Modifier.isStatic(m.getModifiers())) {
                seen.add(told);
            } else if (!Modifier.isPrivate(m.getModifiers())) {
                wrong.add("not private: " + told);
            } else if (faceNames().contains(m.getName())) {
                wrong.add("private, with a public one's name: " + told);
            }
        }
        if (!seen.equals(new TreeSet<>(FACE))) {
            wrong.add("the face is " + seen);
        }
        int access = CarriedSets.class.getModifiers();
        if (!Modifier.isPublic(access) || !Modifier.isFinal(access)) {
            wrong.add("the class is not public and final");
        }
    }

    private static Set<String> faceNames() {
        Set<String> names = new HashSet<>();
        for (String told : FACE) {
            names.add(told.substring(told.indexOf(' ') + 1, told.indexOf('(')));
        }
        return names;
    }

    private static void members() {
        Set<String> open = new TreeSet<>();
        for (Field f : CarriedSets.class.getDeclaredFields()) {
            if (!Modifier.isPrivate(f.getModifiers())) {
                open.add(Modifier.toString(f.getModifiers()) + " " + f.getType() + " " + f.getName());
            }
        }
        Set<String> due = new TreeSet<>();
        for (String name : new String[] {"NONE", "BAD", "NO", "FULL"}) {
            due.add("public static final int " + name);
        }
        if (!open.equals(due)) {
            wrong.add("open fields: " + open);
        }
        Constructor<?>[] made = CarriedSets.class.getDeclaredConstructors();
        if (made.length != 1 || made[0].getParameterCount() != 0 || !Modifier.isPublic(made[0].getModifiers())) {
            wrong.add("the constructors are not as told");
        }
        fields(CarriedSets.class);
        Class<?>[] inside = CarriedSets.class.getDeclaredClasses();
        if (inside.length > 11) {
            wrong.add("too many classes");
        }
        for (Class<?> c : inside) {
            inside(c, faceNames());
            fields(c);
        }
    }

    private static void inside(Class<?> c, Set<String> names) {
        if (!Modifier.isStatic(c.getModifiers())) {
            wrong.add(c + " is not static");
        }
        for (Method m : c.getDeclaredMethods()) {
            if (names.contains(m.getName()) || m.getParameterCount() > 7) {
                wrong.add(c + ": " + m.getName());
            }
        }
    }

    private static void fields(Class<?> c) {
        int own = 0;
        for (Field f : c.getDeclaredFields()) {
            if (!Modifier.isStatic(f.getModifiers())) {
                own++;
            } else if (!Modifier.isFinal(f.getModifiers())) {
                wrong.add(c + ": static " + f.getName());
            }
        }
        if (own > MOST_FIELDS) {
            wrong.add(c + ": " + own + " fields");
        }
    }

    /** A method begins with a line that has a ( and ends in {, and ends with a } as far in. */
    private static void lengths(String[] lines) {
        for (int k = 0; k < lines.length; k++) {
            Matcher begun = Pattern.compile("( {4}| {8})\\w[^=;]*\\(.*\\{").matcher(lines[k]);
            if (begun.matches()) {
                int end = k;
                while (end < lines.length && !lines[end].equals(begun.group(1) + "}")) {
                    end++;
                }
                if (end - k >= MOST_LINES) {
                    wrong.add("more than " + MOST_LINES + " lines: " + lines[k].trim());
                }
            }
        }
    }

    private static void words(String source) {
        String bare = source.replaceAll("(?s)/\\*.*?\\*/", "").replaceAll("//[^\n]*", "");
        for (String word : FORBIDDEN) {
            String edge = Character.isLetter(word.charAt(0)) && !word.equals("Exact") ? "\\b" : "";
            Matcher found = Pattern.compile(edge + Pattern.quote(word) + (edge.isEmpty() || word.endsWith("{") ? "" : edge)).matcher(bare);
            if (found.find()) {
                wrong.add("the source has: " + word);
            }
        }
        Matcher library = Pattern.compile("\\b[A-Z][a-z]\\w*\\.[a-z]\\w*(?=\\()").matcher(bare);
        while (library.find()) {
            String owner = library.group().substring(0, library.group().indexOf('.'));
            if (!LIBRARY.contains(library.group()) && !bare.contains("static final class " + owner + " ")) {
                wrong.add("the source calls " + library.group());
            }
        }
        Matcher imports = Pattern.compile("import ([^;]+);").matcher(bare);
        while (imports.find()) {
            if (!Set.of("java.util.Arrays", "java.util.ArrayList", "java.util.List").contains(imports.group(1))) {
                wrong.add("the source imports " + imports.group(1));
            }
        }
    }
}
