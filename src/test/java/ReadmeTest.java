import java.io.IOException;
import java.lang.reflect.Method;
import java.lang.reflect.Modifier;
import java.nio.file.Files;
import java.nio.file.Path;
import java.util.ArrayList;
import java.util.List;
import java.util.regex.Matcher;
import java.util.regex.Pattern;
import java.util.stream.Stream;

/** What README.md says is so: its program compiles and its calls answer as told, its commands run, its files are there. */
public final class ReadmeTest {
    private static final Path README = Path.of("README.md");
    private static final Path TESTS = Path.of("src/test/java");
    /** A copy of the sources, so that the commands can be run as they are told, and leave nothing behind. */
    private static final Path COPY = Path.of("build/readme");
    private static final Pattern CALL = Pattern.compile("^( +)(x\\.(\\w+)\\(.*\\)); *// (-?[0-9]+|[A-Z]+)(: .*)?$");

    public static void main(String[] args) throws IOException, InterruptedException {
        List<String> lines = Files.readAllLines(README);
        List<String> program = program(lines);
        copySources();
        Files.write(COPY.resolve("Example.java"), program);
        commands(lines);
        answers(program);
        allCalls(program);
        files(String.join("\n", lines));
        constants(String.join("\n", lines));
        Check.end("ReadmeTest");
    }

    /** The lines of the one program that it shows. */
    private static List<String> program(List<String> lines) {
        int start = lines.indexOf("```java");
        Check.holds("one program is shown", start >= 0 && start == lines.lastIndexOf("```java"));
        int end = start + 1;
        while (!lines.get(end).equals("```")) {
            end++;
        }
        return lines.subList(start + 1, end);
    }

    private static void copySources() throws IOException {
        List<Path> sources = new ArrayList<>(inTests());
        sources.add(Path.of("src/main/java/MindReaders.java"));
        for (Path source : sources) {
            Path copy = COPY.resolve(source);
            Files.createDirectories(copy.getParent());
            Files.write(copy, Files.readAllBytes(source));
        }
    }

    private static List<Path> inTests() throws IOException {
        try (Stream<Path> found = Files.list(TESTS)) {
            return found.filter(path -> path.toString().endsWith(".java")).sorted().toList();
        }
    }

    private static void run(String command) throws IOException, InterruptedException {
        ProcessBuilder builder = new ProcessBuilder("sh", "-c", command).directory(COPY.toFile());
        int code = builder.redirectErrorStream(true).redirectOutput(ProcessBuilder.Redirect.INHERIT).start().waitFor();
        Check.due("exit code of " + command, code, 0);
    }

    /** Each command that is told, in its order; .ci/run alone is not run, since it is what runs this test. */
    private static void commands(List<String> lines) throws IOException, InterruptedException {
        boolean shown = false;
        int found = 0;
        for (String line : lines) {
            shown = line.startsWith("```") ? !shown : shown;
            if (shown || !line.startsWith("    ")) {
                continue;
            }
            found++;
            String command = line.trim();
            if (command.startsWith(".")) {
                Check.holds("it can be run: " + command, Files.isExecutable(Path.of(command)));
            } else {
                Check.holds("javac and java alone: " + command, command.startsWith("javac ") || command.startsWith("java "));
                run(command);
            }
        }
        Check.due("commands that are told", found, 5);
    }

    /** The program once more, each call compared with the answer behind it. */
    private static void answers(List<String> program) throws IOException, InterruptedException {
        List<String> checked = new ArrayList<>();
        int found = 0;
        boolean asks = false;
        for (String line : program) {
            asks = asks || line.contains("void main");
            Matcher call = CALL.matcher(line);
            boolean told = call.matches();
            Check.holds("an answer is told: " + line, told || !asks || !line.contains("x."));
            checked.add(told ? due(call) : line);
            found += told ? 1 : 0;
        }
        Check.holds("calls are found", found > 50);
        int end = checked.lastIndexOf("    }");
        checked.add(end, "        Check.end(\"README.md\");");
        Files.createDirectories(COPY.resolve("checked"));
        Files.write(COPY.resolve("checked/Example.java"), checked);
        run("javac -d build/checked src/main/java/MindReaders.java src/test/java/Check.java checked/Example.java");
        run("java -cp build/checked Example");
    }

    private static String due(Matcher call) {
        String answer = call.group(4);
        boolean named = Character.isLetter(answer.charAt(0));
        return "Check.due(\"" + call.group(2) + "\", " + call.group(2) + ", " + (named ? "MindReaders." + answer : answer + "L") + ");";
    }

    private static void allCalls(List<String> program) {
        String text = String.join("\n", program);
        for (Method method : MindReaders.class.getDeclaredMethods()) {
            if (Modifier.isPublic(method.getModifiers())) {
                Check.holds("it shows " + method.getName(), text.contains("x." + method.getName() + "("));
            }
        }
    }

    /** Each file of the tests that is named is there, and each test is named. */
    private static void files(String text) throws IOException {
        Matcher named = Pattern.compile("`(\\w+(?:Test|Sentences))`|`(\\w+)\\.java`").matcher(text);
        while (named.find()) {
            String name = named.group(1) == null ? named.group(2) : named.group(1);
            boolean there = Files.exists(TESTS.resolve(name + ".java"));
            Check.holds("there is " + name, there || name.equals("Example"));
        }
        for (Path test : inTests()) {
            String name = test.getFileName().toString().replace(".java", "");
            Check.holds("it names " + name, !name.endsWith("Test") || text.contains("`" + name + "`"));
        }
    }

    private static void constants(String text) {
        told(text, "NONE", MindReaders.NONE);
        told(text, "UNKNOWN", MindReaders.UNKNOWN);
        told(text, "OUTSIDE", MindReaders.OUTSIDE);
        told(text, "STATE", MindReaders.STATE);
        told(text, "FULL", MindReaders.FULL);
    }

    private static void told(String text, String name, int number) {
        Check.holds("it tells " + name, Pattern.compile("`" + name + "`\\s\\(" + number + "[:)]").matcher(text).find());
    }
}
