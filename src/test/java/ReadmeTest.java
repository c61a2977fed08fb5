import java.io.IOException;
import java.lang.reflect.Method;
import java.lang.reflect.Modifier;
import java.nio.file.Files;
import java.nio.file.Path;
import java.util.ArrayList;
import java.util.List;
import java.util.regex.Matcher;
import java.util.regex.Pattern;
import java.util.stream.Collectors;
import java.util.stream.Stream;

/** What README.md says works as it stands: in a copy of the checkout, so that nothing is left behind in this one. */
public final class ReadmeTest {
    private static final Due due = new Due();
    private static final String CI = ".ci/run\n";

    public static void main(String[] args) throws Exception {
        String page = Files.readString(Path.of("README.md"));
        Path top = Files.createTempDirectory("readme");
        try {
            Path checkout = copyTo(top);
            commandsRun(page, checkout);
        } finally {
            remove(top);
        }
        ciCanRun(page);
        snippetIsOfTheExample(page);
        namesEachCall(page);
        namesEachTest(page);
        due.end("ReadmeTest");
    }

    private static Path copyTo(Path top) throws IOException {
        Path checkout = Files.createDirectory(top.resolve("main"));
        Files.createSymbolicLink(top.resolve("shared"), Path.of("../shared").toRealPath());
        for (Path path : pathsUnder(Path.of("src"))) {
            Path copy = checkout.resolve(path);
            if (Files.isDirectory(path)) {
                Files.createDirectories(copy);
            } else {
                Files.copy(path, copy);
            }
        }
        return checkout;
    }

    private static List<Path> pathsUnder(Path path) throws IOException {
        try (Stream<Path> paths = Files.walk(path)) {
            return paths.collect(Collectors.toList());
        }
    }

    private static void remove(Path top) throws IOException {
        List<Path> paths = pathsUnder(top);
        for (int i = paths.size() - 1; i >= 0; i--) {
            Files.delete(paths.get(i));
        }
    }

    /** Each block of commands ends well; what it prints is the block of text that follows it, if one does. */
    private static void commandsRun(String page, Path checkout) throws Exception {
        Matcher block = Pattern.compile("```sh\n(.*?)```\n(?:\nIt prints\n\n```text\n(.*?)```\n)?", Pattern.DOTALL).matcher(page);
        int printed = 0;
        while (block.find()) {
            String commands = block.group(1);
            if (commands.equals(CI)) {
                continue;
            }
            Path out = Files.createTempFile(checkout, "out", ".txt");
            Process process = new ProcessBuilder("sh", "-e", "-c", commands).directory(checkout.toFile())
                .redirectErrorStream(true).redirectOutput(out.toFile()).start();
            due.is(commands, process.waitFor(), 0);
            if (block.group(2) != null) {
                String got = Files.readString(out).replace("\r\n", "\n");
                due.is(commands + "prints as told: " + got, got.equals(block.group(2)) ? 1 : 0, 1);
                printed++;
            }
        }
        due.is("blocks of commands with what they print", printed, 1);
    }

    /** (It runs this test, so it isn't run here.) */
    private static void ciCanRun(String page) {
        due.is("names .ci/run", page.contains("```sh\n" + CI) ? 1 : 0, 1);
        due.is(".ci/run can be run", Files.isExecutable(Path.of(".ci/run")) ? 1 : 0, 1);
    }

    private static void snippetIsOfTheExample(String page) throws IOException {
        List<String> example = Files.readAllLines(Path.of("src/example/java/Court.java"));
        Matcher block = Pattern.compile("```java\n(.*?)```", Pattern.DOTALL).matcher(page);
        due.is("there is a snippet", block.find() ? 1 : 0, 1);
        for (String line : block.group(1).split("\n")) {
            due.is("in Court.java: " + line, example.contains(line) ? 1 : 0, 1);
        }
    }

    private static void namesEachCall(String page) {
        for (Method method : KiteSummons.class.getDeclaredMethods()) {
            if (Modifier.isPublic(method.getModifiers())) {
                due.is("names " + method.getName(), page.contains("`" + method.getName() + "`") ? 1 : 0, 1);
            }
        }
    }

    /** Each test is named, and each that is named is there. */
    private static void namesEachTest(String page) throws IOException {
        List<String> tests = new ArrayList<>();
        for (Path path : pathsUnder(Path.of("src/test/java"))) {
            String name = path.getFileName().toString();
            if (name.endsWith("Test.java")) {
                tests.add(name.replace(".java", ""));
            }
        }
        for (String test : tests) {
            due.is("names " + test, page.contains("`" + test + "`") ? 1 : 0, 1);
        }
        Matcher named = Pattern.compile("`(\\w+Test)`").matcher(page);
        while (named.find()) {
            due.is("there is " + named.group(1), tests.contains(named.group(1)) ? 1 : 0, 1);
        }
    }
}
