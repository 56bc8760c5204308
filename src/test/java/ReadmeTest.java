import java.io.IOException;
import java.lang.reflect.Method;
import java.lang.reflect.Modifier;
import java.nio.file.DirectoryStream;
import java.nio.file.Files;
import java.nio.file.Path;
import java.util.Map;
import java.util.Set;
import java.util.TreeSet;
import java.util.regex.Matcher;
import java.util.regex.Pattern;

/** The calls that README.md shows are made here one behind another: each must give the answer shown behind it. */
final class ReadmeTest {
    private static final Path PAGE = Path.of("README.md");
    private static final Path TESTS = Path.of("src/test/java");
    private static final Pattern BLOCK = Pattern.compile("(?s)```java\n(.*?)```");
    private static final Pattern ANSWERED = Pattern.compile("x\\.(\\w+)(\\([-\\d, ]*\\)); +// (-?\\d+|[A-Z]+)(: .*)?");
    private static final Pattern TEXT = Pattern.compile("(?:String )?text = \"(.*)\";");
    private static final Set<String> LOOP = Set.of("for (int i = 0; i < text.length(); i++) {", "}");
    private static final Map<String, Integer> CONSTANTS = Map.of("BAD", InsultStatues.BAD, "STATE",
        InsultStatues.STATE, "FULL", InsultStatues.FULL, "NONE", InsultStatues.NONE, "NO", InsultStatues.NO);

    private final Set<String> shown = new TreeSet<>();
    private Run run;
    private String text = "";

    public static void main(String[] args) throws IOException {
        String page = Files.readString(PAGE);
        new ReadmeTest().callsOf(page);
        constants(page);
        tests(page);
        Expect.end("ReadmeTest");
    }

    private void callsOf(String page) {
        Matcher blocks = BLOCK.matcher(page);
        while (blocks.find()) {
            for (String line : blocks.group(1).split("\n")) {
                line(line.strip());
            }
        }
        for (Method m : InsultStatues.class.getDeclaredMethods()) {
            if (Modifier.isPublic(m.getModifiers())) {
                Expect.yes("README.md shows " + m.getName(), shown.contains(m.getName()));
            }
        }
    }

    private void line(String line) {
        Matcher told = TEXT.matcher(line);
        Matcher answered = ANSWERED.matcher(line);
        if (line.equals("InsultStatues x = new InsultStatues();")) {
            run = new Run();
        } else if (told.matches()) {
            text = told.group(1);
        } else if (line.equals("x.type(text.charAt(i));")) {
            run.type(text);
        } else if (answered.matches()) {
            String due = answered.group(3);
            shown.add(answered.group(1));
            run.due(answered.group(1) + answered.group(2),
                CONSTANTS.containsKey(due) ? CONSTANTS.get(due) : Long.parseLong(due));
        } else {
            Expect.yes("README.md shows no answer of: " + line, LOOP.contains(line));
        }
    }

    private static void constants(String page) {
        for (Map.Entry<String, Integer> c : CONSTANTS.entrySet()) {
            String row = "`" + c.getKey() + "` | " + c.getValue() + " |";
            String words = "`" + c.getKey() + "` (" + c.getValue() + ")";
            Expect.yes("README.md tells the number of " + c.getKey(), page.contains(row) || page.contains(words));
        }
    }

    private static void tests(String page) throws IOException {
        try (DirectoryStream<Path> found = Files.newDirectoryStream(TESTS, "*Test.java")) {
            for (Path test : found) {
                String name = test.getFileName().toString().replace(".java", "");
                Expect.yes("README.md tells what " + name + " looks at", page.contains("| `" + name + "` | "));
            }
        }
    }

    private ReadmeTest() {
    }
}
