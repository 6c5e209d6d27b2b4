import java.io.IOException;
import java.nio.charset.StandardCharsets;
import java.nio.file.Files;
import java.nio.file.Path;
import java.util.ArrayList;
import java.util.List;
import java.util.regex.Matcher;
import java.util.regex.Pattern;

/** README.md: its example prints what it says there, and it leaves out no call and no test. */
public final class ReadmeTest {
    private static final Pattern PRINTS = Pattern.compile("// prints (-?\\d+)");
    private static final Pattern CALL = Pattern.compile("public int (\\w+)\\(");

    public static void main(String[] args) throws IOException, InterruptedException {
        String readme = Files.readString(Path.of("README.md"), StandardCharsets.UTF_8);
        exampleRuns(readme);
        callsAreTold(readme);
        testsAreTold(readme);
        Check.end("ReadmeTest");
    }

    private static void exampleRuns(String readme) throws IOException, InterruptedException {
        int from = readme.indexOf("```java\n") + "```java\n".length();
        String example = readme.substring(from, readme.indexOf("```", from));
        List<String> want = all(PRINTS, example);
        List<String> got = printedBy(example);
        Check.due("lines that the example prints", got.size(), example.split("println", -1).length - 1);
        Check.alike("README.md's example", got.toString(), want.toString());
    }

    private static List<String> printedBy(String program) throws IOException, InterruptedException {
        Path folder = Files.createTempDirectory("example");
        Path file = folder.resolve("Example.java");
        Path printed = folder.resolve("printed");
        Files.writeString(file, program, StandardCharsets.UTF_8);
        String java = Path.of(System.getProperty("java.home"), "bin", "java").toString();
        int exit = new ProcessBuilder(java, "-cp", System.getProperty("java.class.path"), file.toString())
            .redirectErrorStream(true).redirectOutput(printed.toFile()).start().waitFor();
        List<String> lines = Files.readAllLines(printed, StandardCharsets.UTF_8);
        Files.delete(printed);
        Files.delete(file);
        Files.delete(folder);
        Check.due("exit code of README.md's example", exit, 0);
        return lines;
    }

    private static void callsAreTold(String readme) throws IOException {
        for (String call : all(CALL, Files.readString(Path.of("../shared/DOC.md"), StandardCharsets.UTF_8))) {
            Check.due("README.md tells of " + call, readme.contains("`" + call + "(") ? 1 : 0, 1);
        }
    }

    private static void testsAreTold(String readme) throws IOException {
        try (var files = Files.list(Path.of("src/test/java"))) {
            for (String name : files.map(file -> file.getFileName().toString()).toList()) {
                if (name.endsWith("Test.java")) {
                    String test = name.replace(".java", "");
                    Check.due("README.md tells of " + test, readme.contains("`" + test + "`") ? 1 : 0, 1);
                }
            }
        }
    }

    private static List<String> all(Pattern pattern, String text) {
        List<String> found = new ArrayList<>();
        Matcher m = pattern.matcher(text);
        while (m.find()) {
            found.add(m.group(1));
        }
        return found;
    }
}
