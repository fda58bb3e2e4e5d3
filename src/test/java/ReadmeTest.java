import java.io.File;
import java.io.IOException;
import java.nio.file.Files;
import java.nio.file.Path;
import java.util.regex.Matcher;
import java.util.regex.Pattern;
import javax.tools.ToolProvider;

/** README.md as it stands: its calls, one run from the first to the last, answer as it tells, and it names each test. */
public final class ReadmeTest {
    private static final Pattern BLOCK = Pattern.compile("(?s)```java\n(.*?)```");
    private static final Pattern TOLD = Pattern.compile("(?m)^(x\\.[^;\n]+); +// (-?\\d+):.*$");
    private static final int LEAST_TOLD = 30;

    public static void main(String[] args) throws IOException, InterruptedException {
        String readme = Files.readString(Path.of("README.md"));
        Due due = new Due();
        for (File file : new File("src/test/java").listFiles()) {
            String name = file.getName().replace(".java", "");
            due.is("README.md names " + name, readme.contains(name) || !name.endsWith("Test") ? 1 : 0, 1);
        }
        Path made = Files.createTempDirectory("readme");
        try {
            Files.writeString(made.resolve("Told.java"), programOf(readme, due));
            due.is("the calls of README.md, as a program", compileAndRun(made), 0);
        } finally {
            for (File file : made.toFile().listFiles()) {
                file.delete();
            }
            made.toFile().delete();
        }
        due.end();
    }

    /** All blocks one behind another, each call with an answer held against it. */
    private static String programOf(String readme, Due due) {
        StringBuilder run = new StringBuilder();
        Matcher blocks = BLOCK.matcher(readme);
        while (blocks.find()) {
            run.append(blocks.group(1));
        }
        due.is("calls are found in README.md", TOLD.matcher(run).results().count() >= LEAST_TOLD ? 1 : 0, 1);
        String held = TOLD.matcher(run).replaceAll("due.is(\"README.md, $1\", $1, $2);");
        return "class Told {\npublic static void main(String[] args) {\nDue due = new Due();\n" + held + "due.end();\n}\n}\n";
    }

    private static int compileAndRun(Path made) throws IOException, InterruptedException {
        String path = made + File.pathSeparator + System.getProperty("java.class.path");
        int compiled = ToolProvider.getSystemJavaCompiler().run(null, null, null, "-proc:none", "-cp", path, "-d", made.toString(),
            made.resolve("Told.java").toString());
        String java = Path.of(System.getProperty("java.home"), "bin", "java").toString();
        return compiled != 0 ? compiled : new ProcessBuilder(java, "-cp", path, "Told").inheritIO().start().waitFor();
    }
}
