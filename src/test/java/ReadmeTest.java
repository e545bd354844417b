import java.io.IOException;
import java.lang.reflect.Field;
import java.nio.file.Files;
import java.nio.file.Path;
import java.util.List;
import java.util.regex.Matcher;
import java.util.regex.Pattern;
import java.util.stream.Collectors;
import java.util.stream.Stream;

/** README.md says what is so: its calls answer as told there, and it leaves nothing out. */
public final class ReadmeTest {
    private static final Due DUE = new Due("ReadmeTest");
    private static final Path README = Path.of("README.md");
    private static final Path SOURCE = Path.of("src/main/java/ChalkMarket.java");
    private static final Path TESTS = Path.of("src/test/java");
    private static final Pattern CALL = Pattern.compile("market\\.(\\w+\\(.*?\\)); +// (-?\\d+)(?: \\(([A-Z +]+)\\))?(?::.*|)");
    private static final Pattern WRITE = Pattern.compile("for \\(char sign : \"(.*)\"\\.toCharArray\\(\\)\\) market\\.say\\(sign\\);");
    private static final Pattern FACE = Pattern.compile("\n    public (?:int|long) (\\w+)\\((.*)\\) \\{");

    public static void main(String[] args) throws Exception {
        String readme = Files.readString(README);
        example(readme);
        namesEveryCall(readme);
        namesEveryConstant(readme);
        namesEveryTestAndClass(readme);
        DUE.end();
    }

    /** Every line of the example is a call with its answer, or signs that are said. */
    private static void example(String readme) {
        int start = readme.indexOf("```java\n") + 8;
        String[] lines = readme.substring(start, readme.indexOf("```", start)).split("\n");
        DUE.is("the example begins", lines[0], "ChalkMarket market = new ChalkMarket();");
        Telling telling = new Telling();
        for (int i = 1; i < lines.length; i++) {
            Matcher call = CALL.matcher(lines[i]);
            Matcher write = WRITE.matcher(lines[i]);
            if (write.matches()) {
                telling.perform("write " + write.group(1));
            } else if (call.matches()) {
                long want = Long.parseLong(call.group(2));
                DUE.is("README.md: " + call.group(1), telling.ask(call.group(1)), want);
                DUE.is("README.md: " + call.group(1) + " names it", want, call.group(3) == null ? want : named(call.group(3)));
            } else {
                DUE.holds("README.md: no call with its answer: " + lines[i], false);
            }
        }
    }

    /** What constants, added up, are. */
    private static long named(String sum) {
        long all = 0;
        for (String name : sum.split(" \\+ ")) {
            all += constant(name);
        }
        return all;
    }

    private static long constant(String name) {
        try {
            return ((Number) ChalkMarket.class.getField(name).get(null)).longValue();
        } catch (ReflectiveOperationException missing) {
            throw new IllegalStateException("no constant " + name, missing);
        }
    }

    private static void namesEveryCall(String readme) throws IOException {
        Matcher face = FACE.matcher(Files.readString(SOURCE));
        int calls = 0;
        while (face.find()) {
            String call = "`" + face.group(1) + "(" + face.group(2).replace("int ", "") + ")`";
            DUE.holds("README.md does not tell of " + call, readme.contains(call));
            calls++;
        }
        DUE.is("calls of the face", calls, 25);
    }

    private static void namesEveryConstant(String readme) {
        for (Field field : ChalkMarket.class.getFields()) {
            String name = field.getName();
            long number = constant(name);
            boolean isThere = readme.contains("| `" + name + "` | " + number + " |") || readme.contains("`" + name + "` (" + number + ")");
            DUE.holds("README.md does not tell that " + name + " is " + number, isThere);
        }
    }

    private static void namesEveryTestAndClass(String readme) throws IOException {
        for (Class<?> inside : ChalkMarket.class.getDeclaredClasses()) {
            DUE.holds("README.md does not tell of " + inside, readme.contains("`" + inside.getSimpleName() + "`"));
        }
        List<String> files;
        try (Stream<Path> all = Files.list(TESTS)) {
            files = all.map(file -> file.getFileName().toString()).collect(Collectors.toList());
        }
        for (String file : files) {
            String name = file.replace(".java", "");
            if (name.endsWith("Test") && !name.matches("Part[23]Test")) {
                DUE.holds("README.md does not tell of " + name, readme.contains("`" + name + "`"));
            }
        }
        DUE.holds("README.md does not tell how tests are run", readme.contains("```sh\n.ci/run\n```"));
    }
}
