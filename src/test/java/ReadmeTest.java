import java.io.IOException;
import java.nio.charset.StandardCharsets;
import java.nio.file.DirectoryStream;
import java.nio.file.Files;
import java.nio.file.Path;
import java.util.ArrayList;
import java.util.Comparator;
import java.util.List;
import java.util.Set;
import java.util.TreeSet;
import java.util.regex.Matcher;
import java.util.regex.Pattern;
import java.util.stream.Stream;

/** That what README.md says holds: its program, its table of calls, its table of tests; run from the project's folder. */
public final class ReadmeTest {
    private static final Due due = new Due("ReadmeTest");

    public static void main(String[] args) throws IOException, InterruptedException {
        String readme = Files.readString(Path.of("README.md"));
        example(readme);
        calls(readme);
        constants(readme);
        tests(readme);
        due.end();
    }

    /** The program is compiled and run as the page says, and prints what stands behind its lines. */
    private static void example(String readme) throws IOException, InterruptedException {
        Matcher block = Pattern.compile("```java\n(.*?)```", Pattern.DOTALL).matcher(readme);
        boolean found = block.find();
        due.is("there is a program", found ? 1 : 0, 1);
        if (!found) {
            return;
        }
        String program = block.group(1);
        Path folder = Files.createTempDirectory("readme");
        try {
            Path file = folder.resolve("Example.java");
            Files.writeString(file, program);
            Path out = folder.resolve("out");
            List<String> said = run("javac", "-encoding", "UTF-8", "-d", out.toString(),
                    "src/main/java/AGapEveryTwenty.java", file.toString());
            due.is("it compiles: " + said, said.size(), 0);
            List<String> got = run("java", "-cp", out.toString(), "Example");
            List<String> want = new ArrayList<>();
            Matcher m = Pattern.compile("System\\.out\\.println\\(.*\\); *// (\\S+)").matcher(program);
            while (m.find()) {
                want.add(m.group(1));
            }
            due.is("lines printed: " + got, got.size(), want.size());
            for (int i = 0; i < Math.min(got.size(), want.size()); i++) {
                due.is("line " + (i + 1) + ", " + got.get(i) + " for " + want.get(i),
                        got.get(i).equals(want.get(i)) ? 1 : 0, 1);
            }
        } finally {
            remove(folder);
        }
    }

    private static List<String> run(String... command) throws IOException, InterruptedException {
        Process process = new ProcessBuilder(command).redirectErrorStream(true).start();
        String said = new String(process.getInputStream().readAllBytes(), StandardCharsets.UTF_8);
        due.is(command[0] + " ends well", process.waitFor(), 0);
        List<String> lines = new ArrayList<>();
        said.lines().forEach(lines::add);
        return lines;
    }

    private static void remove(Path folder) throws IOException {
        try (Stream<Path> all = Files.walk(folder)) {
            for (Path path : all.sorted(Comparator.reverseOrder()).toList()) {
                Files.delete(path);
            }
        }
    }

    /** Each call of the document stands in the table, with its arguments as they are called. */
    private static void calls(String readme) throws IOException {
        Set<String> want = new TreeSet<>();
        Matcher m = Pattern.compile("public (?:int|long) (\\w+)\\(([^)]*)\\);").matcher(
                Files.readString(Path.of("../shared/DOC.md")));
        while (m.find()) {
            want.add(m.group(1) + "(" + m.group(2).replaceAll("(int|long) ", "") + ")");
        }
        due.is("calls in the document", want.size(), 38);
        Set<String> got = new TreeSet<>();
        int rows = 0;
        for (String row : table(readme, "calls")) {
            Matcher call = Pattern.compile("`(\\w+\\([^)]*\\))`").matcher(row.split("\\|")[1]);
            while (call.find()) {
                got.add(call.group(1));
                rows++;
            }
        }
        due.is("calls in the table: " + got + " for " + want, got.equals(want) ? 1 : 0, 1);
        due.is("each once", rows, 38);
    }

    private static void constants(String readme) {
        for (String row : table(readme, "answer")) {
            Matcher m = Pattern.compile("`([A-Z]+)` \\((-\\d+)\\)").matcher(row);
            while (m.find()) {
                due.is(m.group(1), Long.parseLong(m.group(2)), constant(m.group(1)));
            }
        }
    }

    private static long constant(String name) {
        switch (name) {
            case "BAD": return AGapEveryTwenty.BAD;
            case "STATE": return AGapEveryTwenty.STATE;
            case "FULL": return AGapEveryTwenty.FULL;
            case "NO": return AGapEveryTwenty.NO;
            default: return 0;
        }
    }

    /** The table names each test that there is, and none else; the other files are told as helpers. */
    private static void tests(String readme) throws IOException {
        Set<String> told = new TreeSet<>();
        for (String row : table(readme, "test")) {
            for (String name : row.split("\\|")[1].trim().split(", ")) {
                told.add(name);
            }
        }
        Set<String> there = new TreeSet<>();
        try (DirectoryStream<Path> files = Files.newDirectoryStream(Path.of("src/test/java"), "*.java")) {
            for (Path file : files) {
                String name = file.getFileName().toString().replace(".java", "");
                if (name.endsWith("Test")) {
                    there.add(name);
                } else {
                    due.is("helper " + name, readme.contains("`" + name + "`") ? 1 : 0, 1);
                }
            }
        }
        due.is("tests in the table: " + told + " for " + there, told.equals(there) ? 1 : 0, 1);
    }

    /** The rows of the table whose first head is this one, without its heads. */
    private static List<String> table(String readme, String head) {
        List<String> rows = new ArrayList<>();
        int at = readme.indexOf("| " + head + " |");
        due.is("there is a table of " + head, at >= 0 ? 1 : 0, 1);
        String[] lines = readme.substring(Math.max(at, 0)).split("\n");
        for (int i = 2; i < lines.length && lines[i].startsWith("|"); i++) {
            rows.add(lines[i]);
        }
        due.is("it has rows: " + head, rows.isEmpty() ? 0 : 1, 1);
        return rows;
    }
}
