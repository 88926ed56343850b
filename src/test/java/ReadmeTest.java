import java.io.File;
import java.io.IOException;
import java.nio.file.Files;
import java.nio.file.Path;
import java.util.List;
import java.util.regex.Matcher;
import java.util.regex.Pattern;

/** README.md's example gives the answers that stand behind its calls, and its commands run as they stand. */
public final class ReadmeTest {
    private static final Due due = new Due();
    /** A variable that is given an answer, and the answer behind it. */
    private static final Pattern ANSWER =
        Pattern.compile("(?:int|long|boolean) (\\w+) = .*; *// (-?\\d+|true|false)(?::.*|;.*)?$");

    private static List<String> block(String readme, String kind) {
        String fence = "```" + kind + "\n";
        int from = readme.indexOf(fence);
        int to = readme.indexOf("```\n", from + fence.length());
        due.is("a block of " + kind, from >= 0 && to > from, true);
        due.is("no other block of " + kind, readme.indexOf(fence, from + 1), -1);
        return List.of(readme.substring(from + fence.length(), to).split("\n"));
    }

    /** The example as a program that ends with 1 if an answer is another one; the place of each answer is checked. */
    private static String program(List<String> example) {
        StringBuilder b = new StringBuilder("public class Example {\n    public static void main(String[] args) {\n"
            + "        int wrong = 0;\n");
        int answers = 0;
        int calls = 0;
        for (String line : example) {
            b.append("        ").append(line).append('\n');
            Matcher m = ANSWER.matcher(line);
            calls += line.contains("= canal.") ? 1 : 0;
            if (m.matches()) {
                answers++;
                b.append("        if (").append(m.group(1)).append(" != ").append(m.group(2)).append(") {\n")
                    .append("            wrong = 1;\n")
                    .append("            System.out.println(\"").append(m.group(1)).append(" is \" + ")
                    .append(m.group(1)).append(");\n        }\n");
            }
        }
        due.is("an answer behind each call", answers, calls);
        due.is("answers", answers > 0, true);
        return b.append("        System.exit(wrong);\n    }\n}\n").toString();
    }

    private static int run(String... command) throws IOException, InterruptedException {
        return new ProcessBuilder(command).inheritIO().start().waitFor();
    }

    private static void tryExample(String readme) throws IOException, InterruptedException {
        due.in("README.md, the example");
        Path dir = Files.createTempDirectory("readme");
        Path source = dir.resolve("Example.java");
        Files.writeString(source, program(block(readme, "java")));
        String main = "src/main/java/SidePonds.java";
        due.is("compiles", run("javac", "-d", dir.toString(), main, source.toString()), 0);
        due.is("answers as it says", run("java", "-cp", dir.toString(), "Example"), 0);
        File[] made = dir.toFile().listFiles();
        for (int i = 0; made != null && i < made.length; i++) {
            Files.delete(made[i].toPath());
        }
        Files.delete(dir);
    }

    private static void tryCommands(String readme) throws IOException, InterruptedException {
        due.in("README.md, the commands");
        List<String> commands = block(readme, "sh");
        due.is("commands", commands.size() > 1, true);
        due.is("run as they stand", run("sh", "-e", "-c", String.join("\n", commands)), 0);
        due.is(".ci/run is there", Files.isExecutable(Path.of(".ci/run")), true);
    }

    /** Each test that README.md names is there, and each that is there is named. */
    private static void compareTests(String readme) {
        due.in("README.md, the tests");
        String[] files = new File("src/test/java").list();
        due.is("tests are there", files != null, true);
        for (int i = 0; files != null && i < files.length; i++) {
            String name = files[i].replace(".java", "");
            if (name.endsWith("Test")) {
                due.is(name + " is named", readme.contains("`" + name + "`"), true);
            }
        }
        Matcher m = Pattern.compile("`(\\w+Test)`").matcher(readme);
        while (m.find()) {
            due.is(m.group(1) + " is there", new File("src/test/java/" + m.group(1) + ".java").exists(), true);
        }
    }

    public static void main(String[] args) throws IOException, InterruptedException {
        String readme = Files.readString(Path.of("README.md"));
        tryExample(readme);
        tryCommands(readme);
        compareTests(readme);
        due.end();
    }
}
