import java.io.IOException;
import java.lang.reflect.Method;
import java.lang.reflect.Modifier;
import java.nio.charset.StandardCharsets;
import java.nio.file.Files;
import java.nio.file.Path;
import java.util.Arrays;
import java.util.List;
import java.util.regex.Matcher;
import java.util.regex.Pattern;
import java.util.stream.Collectors;
import java.util.stream.Stream;

/** README.md: each call of its examples answers what stands behind it; no call, no test is left out. */
public final class ReadmeTest {
    private static final Pattern MADE = Pattern.compile("CarriedSets x = new CarriedSets\\(\\);");
    private static final Pattern CALL = Pattern.compile("x\\.(\\w+)\\(([-\\d, ]*)\\);\\s+// (-?\\d+)(: .*)?");
    private static final Pattern TYPED = Pattern.compile("for \\(char c : \"([^\"]*)\"\\.toCharArray\\(\\)\\) x\\.type\\(c\\);");
    private static final Due DUE = new Due("ReadmeTest");

    public static void main(String[] args) throws IOException, ReflectiveOperationException {
        String page = Files.readString(Path.of("README.md"), StandardCharsets.UTF_8);
        Matcher example = Pattern.compile("(?s)```java\n(.*?)```").matcher(page);
        int examples = 0;
        while (example.find()) {
            runs(example.group(1).split("\n"));
            examples++;
        }
        DUE.is("README.md has an example", examples > 0 ? 1 : 0, 1);
        namesEveryCall(page);
        namesEveryTest(page);
        DUE.end();
    }

    private static void runs(String[] lines) throws ReflectiveOperationException {
        CarriedSets x = null;
        for (String line : lines) {
            Matcher call = CALL.matcher(line);
            Matcher typed = TYPED.matcher(line);
            if (MADE.matcher(line).matches()) {
                x = new CarriedSets();
            } else if (x != null && typed.matches()) {
                for (char c : typed.group(1).toCharArray()) {
                    x.type(c);
                }
            } else if (x != null && call.matches()) {
                DUE.is("README.md: " + line, answer(x, call.group(1), call.group(2)), Long.parseLong(call.group(3)));
            } else {
                DUE.is("README.md: a line that is no call with its answer: " + line, 0, 1);
            }
        }
    }

    private static long answer(CarriedSets x, String name, String told) throws ReflectiveOperationException {
        List<Integer> values = Stream.of(told.split(", *")).filter(s -> !s.isEmpty()).map(Integer::valueOf).collect(Collectors.toList());
        Class<?>[] types = new Class<?>[values.size()];
        Arrays.fill(types, int.class);
        Method call = CarriedSets.class.getMethod(name, types);
        return ((Number) call.invoke(x, values.toArray())).longValue();
    }

    private static void namesEveryCall(String page) {
        for (Method m : CarriedSets.class.getDeclaredMethods()) {
            if (Modifier.isPublic(m.getModifiers())) {
                boolean named = page.contains("x." + m.getName() + "(") || page.contains("`" + m.getName() + "(");
                DUE.is("README.md names " + m.getName(), named ? 1 : 0, 1);
            }
        }
    }

    private static void namesEveryTest(String page) throws IOException {
        try (Stream<Path> files = Files.list(Path.of("src/test/java"))) {
            for (Path file : files.collect(Collectors.toList())) {
                String name = file.getFileName().toString().replace(".java", "");
                DUE.is("README.md names " + name, page.contains("`" + name + "`") ? 1 : 0, 1);
            }
        }
        Matcher named = Pattern.compile("`(\\w+Test)`").matcher(page);
        while (named.find()) {
            boolean stands = Files.exists(Path.of("src/test/java", named.group(1) + ".java"));
            DUE.is("there is " + named.group(1), stands ? 1 : 0, 1);
        }
    }
}
