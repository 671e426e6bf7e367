import java.io.IOException;
import java.nio.file.Files;
import java.nio.file.Path;
import java.util.ArrayList;
import java.util.List;
import java.util.concurrent.TimeUnit;
import java.util.regex.Matcher;
import java.util.regex.Pattern;
import java.util.stream.Stream;

/** README.md: its calls answer as it tells, its commands run as they stand there, its files are there. */
public final class ReadmeTest {
    private static final Path PAGE = Path.of("README.md");
    private static final Path TESTS = Path.of("src/test/java");
    private static final Path SHARED = Path.of("../shared");
    /** This test is part of what it runs: it is seen to be there, and not run again. */
    private static final String WHOLE_RUN = ".ci/run";
    private static final int FEWEST_ANSWERS = 50;
    private static final Pattern CALL = Pattern.compile("(?:int (\\w+) = )?(.*);\\s+// ([A-Z0-9+ -]+): \\S.*");

    private final Due due = new Due();
    private final String page;
    /** A folder like the one that holds this checkout and ../shared: what commands make goes with it. */
    private final Path room;

    private ReadmeTest(String page, Path room) {
        this.page = page;
        this.room = room;
    }

    public static void main(String[] args) throws IOException, InterruptedException {
        Path room = Files.createTempDirectory("readme");
        ReadmeTest test = new ReadmeTest(Files.readString(PAGE), room);
        try {
            test.names();
            test.furnish();
            test.example();
            test.commands();
        } finally {
            remove(room);
        }
        test.due.end();
    }

    /** What stands between two rows of three back ticks, the first of which has this word. */
    private List<String> blocks(String word) {
        List<String> found = new ArrayList<>();
        Matcher matcher = Pattern.compile("(?s)```" + word + "\n(.*?)```").matcher(page);
        while (matcher.find()) {
            found.add(matcher.group(1));
        }
        return found;
    }

    /** Each file under src/test/java is named on the page, and each class that the page names is there. */
    private void names() throws IOException {
        try (Stream<Path> files = Files.list(TESTS)) {
            for (Path file : files.sorted().toList()) {
                String name = file.getFileName().toString().replace(".java", "");
                due.is("README.md names " + name, page.contains("`" + name + "`") ? 1 : 0, 1);
            }
        }
        Matcher matcher = Pattern.compile("`([A-Z][a-z]\\w*)`").matcher(page);
        while (matcher.find()) {
            Path file = TESTS.resolve(matcher.group(1) + ".java");
            due.is("README.md: " + file + " is there", Files.exists(file) ? 1 : 0, 1);
        }
        due.is(WHOLE_RUN + " can be run", Files.isExecutable(Path.of(WHOLE_RUN)) ? 1 : 0, 1);
    }

    private void furnish() throws IOException {
        Path main = Files.createDirectories(room.resolve("main"));
        copy(Path.of("src"), main.resolve("src"));
        if (Files.exists(SHARED)) {
            Files.createSymbolicLink(room.resolve("shared"), SHARED.toRealPath());
        }
    }

    private static void copy(Path from, Path to) throws IOException {
        try (Stream<Path> all = Files.walk(from)) {
            for (Path path : all.toList()) {
                Files.copy(path, to.resolve(from.relativize(path)));
            }
        }
    }

    private static void remove(Path folder) throws IOException {
        try (Stream<Path> all = Files.walk(folder)) {
            for (Path path : all.sorted((a, b) -> b.compareTo(a)).toList()) {
                Files.delete(path);
            }
        }
    }

    /** The page's program, each answer that it tells being looked at, is compiled and run. */
    private void example() throws IOException, InterruptedException {
        StringBuilder members = new StringBuilder();
        StringBuilder body = new StringBuilder();
        for (String block : blocks("java")) {
            boolean isMethod = block.startsWith("static ");
            for (String line : block.split("\n")) {
                (isMethod ? members : body).append(isMethod ? line : looking(line)).append('\n');
            }
        }
        int told = body.toString().split("look\\(").length - 1;
        due.is("README.md: answers told, too few", Math.min(told, FEWEST_ANSWERS), FEWEST_ANSWERS);
        Path main = room.resolve("main");
        Files.writeString(main.resolve("Example.java"), """
            public final class Example {
                static final long UNKNOWN = SugarBelow.UNKNOWN, OUTSIDE = SugarBelow.OUTSIDE, STATE = SugarBelow.STATE,
                    FULL = SugarBelow.FULL, NO = SugarBelow.NO, NONE = SugarBelow.NONE, LOST = SugarBelow.LOST;
                static int looks, wrong;
                static void look(String call, long got, long told) {
                    looks++;
                    if (got != told) {
                        wrong++;
                        System.out.println("README.md: " + call + " answered " + got + ", it tells " + told);
                    }
                }
            """ + members + "public static void main(String[] args) {\n" + body
            + "System.exit(wrong == 0 && looks == " + told + " ? 0 : 1);\n}\n}\n");
        run("javac -d example src/main/java/SugarBelow.java Example.java\njava -cp example Example");
    }

    /** The line with a look at its answer: each call tells one. */
    private String looking(String line) {
        Matcher matcher = CALL.matcher(line);
        if (!matcher.matches()) {
            boolean isNoCall = line.isBlank() || line.contains(" = new SugarBelow();");
            due.is("README.md tells an answer: " + line, isNoCall ? 1 : 0, 1);
            return line;
        }
        String call = matcher.group(2);
        String quoted = "\"" + call.replace("\"", "\\\"") + "\"";
        String kept = matcher.group(1) == null ? "" : "int " + matcher.group(1) + " = " + call + "; ";
        String got = matcher.group(1) == null ? call : matcher.group(1);
        return kept + "look(" + quoted + ", " + got + ", " + matcher.group(3) + ");";
    }

    private void commands() throws IOException, InterruptedException {
        List<String> blocks = blocks("sh");
        due.is("README.md has " + WHOLE_RUN, blocks.contains(WHOLE_RUN + "\n") ? 1 : 0, 1);
        for (String block : blocks) {
            boolean lacks = block.contains("../shared") && !Files.exists(SHARED);
            if (!block.equals(WHOLE_RUN + "\n") && !lacks) {
                run(block);
            }
        }
    }

    private void run(String commands) throws IOException, InterruptedException {
        Path output = room.resolve("output");
        Process process = new ProcessBuilder("bash", "-e", "-c", commands).directory(room.resolve("main").toFile())
            .redirectErrorStream(true).redirectOutput(output.toFile()).start();
        boolean ended = process.waitFor(5, TimeUnit.MINUTES);
        process.destroy();
        boolean good = ended && process.exitValue() == 0;
        due.is("README.md:\n" + commands + "\n" + (good ? "" : Files.readString(output)), good ? 0 : 1, 0);
    }
}
