import java.io.File;
import java.io.IOException;
import java.nio.file.Files;
import java.nio.file.Path;
import java.util.ArrayList;
import java.util.List;
import java.util.regex.Matcher;
import java.util.regex.Pattern;
import java.util.stream.Stream;

/** README.md as it stands: its example, its commands, and what it names. */
public final class ReadmeTest {
    private static final Path README = Path.of("README.md");
    private static final Path EXAMPLE = Path.of("src/test/java/Example.java");
    private static final Path TESTS = Path.of("src/test/java");
    private static final String ALL_TESTS = ".ci/run\n";
    private static final Pattern BLOCK = Pattern.compile("^```(\\w+)\n(.*?)^```$",
            Pattern.MULTILINE | Pattern.DOTALL);
    private static final Pattern PATH = Pattern.compile("`([\\w.]*/[\\w./]+)`");
    private static final Pattern METHOD = Pattern.compile("public \\w+ (\\w+)\\(.*");

    /** A fenced part of the page. */
    private record Block(String language, String content) { }

    private final Check check = new Check("ReadmeTest");
    private final String page;
    private final List<Block> blocks = new ArrayList<>();

    private ReadmeTest() throws IOException {
        page = Files.readString(README);
        Matcher matcher = BLOCK.matcher(page);
        while (matcher.find()) {
            blocks.add(new Block(matcher.group(1), matcher.group(2)));
        }
    }

    public static void main(String[] args) throws IOException, InterruptedException {
        ReadmeTest test = new ReadmeTest();
        test.lookAtTheExample();
        test.runTheCommands();
        test.lookAtTheNames();
        test.check.end();
    }

    private long count(String language) {
        return blocks.stream().filter(block -> block.language.equals(language)).count();
    }

    private void lookAtTheExample() throws IOException {
        check.same("the number of examples", "" + count("java"), "1");
        for (Block block : blocks) {
            if (block.language.equals("java")) {
                check.same("the example", block.content, Files.readString(EXAMPLE));
            }
        }
    }

    /** A text behind some commands is what they print. */
    private void runTheCommands() throws IOException, InterruptedException {
        check.same("the number of texts", "" + count("text"), "1");
        String printed = "";
        for (Block block : blocks) {
            if (block.language.equals("text")) {
                check.same("what the commands print", printed, block.content);
            } else if (block.content.equals(ALL_TESTS)) {
                // It runs this very test, so it works if this test is reached.
                check.same("it can be run", "" + Files.isExecutable(Path.of(ALL_TESTS.trim())), "true");
            } else if (block.language.equals("sh")) {
                printed = run(block.content);
            }
        }
        check.same("all tests are run", "" + blocks.contains(new Block("sh", ALL_TESTS)), "true");
        check.same("commands", "" + (count("sh") > 1), "true");
    }

    private String run(String commands) throws IOException, InterruptedException {
        Path room = Files.createTempDirectory("readme");
        Path printed = room.resolve("printed");
        ProcessBuilder builder = new ProcessBuilder("sh", "-e", "-c", commands);
        builder.environment().put("TMPDIR", room.toString());
        builder.redirectOutput(printed.toFile()).redirectError(ProcessBuilder.Redirect.INHERIT);
        int code = builder.start().waitFor();
        String text = Files.readString(printed);
        check.same("the exit code of\n" + commands + text, "" + code, "0");
        delete(room.toFile());
        return text;
    }

    private static void delete(File file) {
        File[] inside = file.listFiles();
        for (int i = 0; inside != null && i < inside.length; i++) {
            delete(inside[i]);
        }
        file.delete();
    }

    private void lookAtTheNames() throws IOException {
        Matcher paths = PATH.matcher(page);
        while (paths.find()) {
            boolean exists = Files.exists(Path.of(paths.group(1)));
            check.same(paths.group(1) + " exists", "" + exists, "true");
        }
        for (String line : new Document().face()) {
            Matcher method = METHOD.matcher(line);
            if (method.matches()) {
                names(method.group(1));
            }
        }
        try (Stream<Path> files = Files.list(TESTS)) {
            files.map(file -> file.getFileName().toString()).filter(name -> name.endsWith("Test.java"))
                    .forEach(name -> names(name.replace(".java", "")));
        }
    }

    private void names(String word) {
        check.same("the page names " + word, "" + page.contains("`" + word + "`"), "true");
    }
}
