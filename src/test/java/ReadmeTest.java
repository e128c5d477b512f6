import java.io.ByteArrayOutputStream;
import java.io.IOException;
import java.io.PrintStream;
import java.lang.reflect.Method;
import java.lang.reflect.Modifier;
import java.nio.file.DirectoryStream;
import java.nio.file.Files;
import java.nio.file.Path;
import java.util.List;
import java.util.regex.Matcher;
import java.util.regex.Pattern;

/** What README.md says of the use of the class and of its tests is so; its commands are run by .ci/run. */
public final class ReadmeTest {
    private static final Check CHECK = new Check("ReadmeTest");
    private static final Pattern ANSWER = Pattern.compile("System\\.out\\.println\\((.*)\\); *// ([-\\w]+)");

    public static void main(String[] args) throws IOException {
        String readme = Files.readString(Path.of("README.md"));
        String example = Files.readString(Path.of("src/example/java/Example.java"));
        CHECK.yes("the example is the program in src/example/java", readme.contains("```java\n" + example + "```\n"));
        theExamplePrintsItsComments(example);
        everyCallIsNamed(readme);
        everyTestIsNamed(readme);
        CHECK.end();
    }

    private static void theExamplePrintsItsComments(String example) {
        PrintStream console = System.out;
        ByteArrayOutputStream printed = new ByteArrayOutputStream();
        System.setOut(new PrintStream(printed, true));
        Example.main(new String[0]);
        System.setOut(console);
        List<String> lines = printed.toString().lines().toList();
        int answers = 0;
        for (Matcher told = ANSWER.matcher(example); told.find(); answers++) {
            String line = answers < lines.size() ? lines.get(answers) : "nothing";
            CHECK.yes(told.group(1) + " prints " + line + " where README.md tells " + told.group(2), line.equals(told.group(2)));
        }
        CHECK.same("lines printed, each with its answer told", lines.size(), answers);
    }

    private static void everyCallIsNamed(String readme) {
        for (Method method : RouteInterlocking.class.getDeclaredMethods()) {
            if (Modifier.isPublic(method.getModifiers())) {
                CHECK.yes(method.getName() + " has a row", readme.contains("\n| `" + method.getName() + "("));
            }
        }
    }

    private static void everyTestIsNamed(String readme) throws IOException {
        try (DirectoryStream<Path> tests = Files.newDirectoryStream(Path.of("src/test/java"), "*Test.java")) {
            for (Path test : tests) {
                String name = test.getFileName().toString().replace(".java", "");
                CHECK.yes(name + " has a row", readme.contains("\n| `" + name + "` |"));
            }
        }
        for (Matcher row = Pattern.compile("\n\\| `(\\w+Test)` \\|").matcher(readme); row.find();) {
            CHECK.yes(row.group(1) + " is there", Files.exists(Path.of("src/test/java", row.group(1) + ".java")));
        }
    }
}
