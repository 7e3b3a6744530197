import java.io.File;
import java.io.IOException;
import java.lang.reflect.Method;
import java.lang.reflect.Modifier;
import java.nio.file.Files;
import java.nio.file.Path;
import java.util.ArrayList;
import java.util.Arrays;
import java.util.Comparator;
import java.util.List;
import java.util.Set;
import java.util.TreeSet;
import java.util.function.IntUnaryOperator;
import java.util.regex.Matcher;
import java.util.regex.Pattern;
import java.util.stream.Collectors;
import java.util.stream.Stream;

/** What README.md shows holds: its example, its tables, and its commands, the one that runs the tests among them. */
public final class ReadmeTest {
    private static final String CLASS = "src/main/java/ExcuseMarket.java";
    private static final String TESTS = "src/test/java";
    private static final String RIGHT = "System.out.println(\"NAME ran\");";
    private static final String WRONG = "System.out.println(\"NAME ran\"); System.exit(1);";
    private static final String BROKEN = "System.out.println(\"NAME ran\")";
    private static final String STUB = "public final class ExcuseMarket { public static final int NONE = -1; }";

    private final String page = Files.readString(Path.of("README.md"));
    private final List<String> commands = blocks("sh");
    /** What the last command printed. */
    private String printed = "";

    private ReadmeTest() throws IOException {
    }

    public static void main(String[] args) throws Exception {
        ReadmeTest test = new ReadmeTest();
        test.example();
        test.calls();
        test.tells();
        test.faults();
        test.testsAreNamed();
        test.testsAreRun();
        test.others();
        Check.end("ReadmeTest");
    }

    private List<String> blocks(String language) {
        List<String> all = new ArrayList<>();
        Matcher m = Pattern.compile("(?ms)^```" + language + "\n(.*?)^```$").matcher(page);
        while (m.find()) {
            all.add(m.group(1));
        }
        return all;
    }

    private int run(Path where, String command) throws Exception {
        File out = File.createTempFile("printed", ".txt");
        Process p = new ProcessBuilder("sh", "-c", "set -e\n" + command).directory(where.toFile())
            .redirectErrorStream(true).redirectOutput(out).start();
        int code = p.waitFor();
        printed = Files.readString(out.toPath());
        Files.delete(out.toPath());
        return code;
    }

    private static void write(Path file, String text) throws IOException {
        Files.createDirectories(file.getParent());
        Files.writeString(file, text);
    }

    private static void copy(String name, Path project) throws IOException {
        Path to = project.resolve(name);
        Files.createDirectories(to.getParent());
        Files.copy(Path.of(name), to);
    }

    private static void remove(Path all) throws IOException {
        List<Path> files;
        try (Stream<Path> walk = Files.walk(all)) {
            files = walk.sorted(Comparator.reverseOrder()).collect(Collectors.toList());
        }
        for (Path file : files) {
            Files.delete(file);
        }
    }

    private void example() throws Exception {
        Check.sentence("the calls of README's example answer what it says that they answer");
        Check.due("examples", blocks("java").size(), 1);
        Path project = Files.createTempDirectory("readme");
        copy(CLASS, project);
        String example = blocks("java").get(0);
        write(project.resolve("Yours.java"), example);
        Check.due("example's commands: end", run(project, commands.get(0)), 0);
        List<String> got = printed.lines().collect(Collectors.toList());
        Matcher m = Pattern.compile("(?m)^ +show\\((.*)\\); +// (-?\\d+|true|false):").matcher(example);
        int shown = 0;
        while (m.find()) {
            String answer = shown < got.size() ? got.get(shown) : "nothing";
            Check.due(m.group(1) + " answered " + answer + " for " + m.group(2), answer.equals(m.group(2)), true);
            shown++;
        }
        Check.due("lines printed", got.size(), shown);
        Check.due("calls shown", example.split("\n +show\\(").length - 1, shown);
        Check.due("many calls are shown", shown > 40, true);
        remove(project);
    }

    /** Rows of README's tables below a heading. */
    private List<String> rows(String heading) {
        String part = page.substring(page.indexOf(heading));
        return part.substring(0, part.indexOf("\n#", 1) < 0 ? part.length() : part.indexOf("\n#", 1)).lines()
            .filter(line -> line.startsWith("| `")).collect(Collectors.toList());
    }

    private void calls() {
        Check.sentence("README tells each call of the class");
        Set<String> told = new TreeSet<>();
        for (String row : rows("### The calls")) {
            Matcher m = Pattern.compile("`(\\w+)\\(([^)]*)\\)`").matcher(row);
            while (m.find()) {
                int given = m.group(2).isEmpty() ? 0 : m.group(2).split(", ").length;
                Check.due("told once: " + m.group(1), told.add(m.group(1) + " " + given), true);
            }
        }
        Set<String> are = new TreeSet<>();
        for (Method method : ExcuseMarket.class.getDeclaredMethods()) {
            if (Modifier.isPublic(method.getModifiers())) {
                are.add(method.getName() + " " + method.getParameterCount());
            }
        }
        Check.due("calls told " + told, told.equals(are), true);
        ExcuseMarket x = Markets.rich();
        lastWhat("man", what -> x.man(0, what));
        lastWhat("excuse", what -> x.excuse(0, what));
        lastWhat("duty", what -> x.duty(0, what));
        lastWhat("planned", what -> x.planned(1, what));
        lastWhat("count", x::count);
    }

    /** The greatest number in a call's row is the last one that the call answers. */
    private void lastWhat(String name, IntUnaryOperator call) {
        for (String row : rows("### The calls")) {
            if (row.startsWith("| `" + name + "(")) {
                int last = Arrays.stream(row.substring(row.lastIndexOf("` |")).split("\\D+")).filter(s -> !s.isEmpty())
                    .mapToInt(Integer::parseInt).max().orElse(-2);
                Check.due(name + " knows " + last, call.applyAsInt(last) != ExcuseMarket.NONE, true);
                Check.due(name + " knows no more than " + last, call.applyAsInt(last + 1), ExcuseMarket.NONE);
            }
        }
    }

    private void tells() {
        Check.sentence("README's table of the text");
        String ahead = "man a 1 1;man b 1 1;excuse e 1 1 1 1;excuse f 1 1 1 1;";
        int n = 0;
        for (String row : rows("### The text")) {
            Matcher m = Pattern.compile("`([a-z]+ [^`]*;)`").matcher(row.substring(0, row.indexOf(" |", 2)));
            while (m.find()) {
                String tell = m.group(1).replaceFirst("MAN", "a").replaceFirst("MAN", "b").replaceFirst("EXCUSE", "e")
                    .replaceFirst("EXCUSE", "f").replace("NAME", "name").replaceAll("[A-Z]+", "1");
                Check.reader(ahead + tell);
                n++;
            }
        }
        Check.due("sorts of what is told", n, 10);
        Matcher words = Pattern.compile("`(day [a-z ]+)`").matcher(page);
        Check.due("variables are told", words.find(), true);
        Check.due("variables", words.group(1).split(" ").length, 9);
        Check.reader(ahead + "duty d a 1 1;passes = " + words.group(1).replace(" ", " + ") + ";");
    }

    private void faults() {
        Check.sentence("README's FAULTS");
        String[] texts = {";", "man a 1 1;".repeat(6), "man a 1 1;man a 1 1;", "duty d a 1 1;", "rain 101;"};
        Matcher m = Pattern.compile("(\\d) (SYNTAX|ROOM|TWICE|NAME|WRONG)\\b").matcher(page);
        int n = 0;
        while (m.find() && n < texts.length) {
            ExcuseMarket x = new ExcuseMarket();
            Check.type(x, texts[n]);
            Check.due(m.group(2), x.read(), Integer.parseInt(m.group(1)));
            n++;
        }
        Check.due("FAULTS", n, 5);
    }

    private void testsAreNamed() throws IOException {
        Check.sentence("README names each test");
        try (Stream<Path> files = Files.list(Path.of(TESTS))) {
            for (Path file : files.collect(Collectors.toList())) {
                String name = file.getFileName().toString().replace(".java", "");
                if (name.endsWith("Test") || name.endsWith("Sentences")) {
                    Check.due(name, page.contains("`" + name + "`"), true);
                }
            }
        }
    }

    private void testsAreRun() throws Exception {
        Check.sentence("the command that README gives for the tests is the one that runs them");
        Check.due("it is a script of the project", Files.isExecutable(Path.of(commands.get(1).trim())), true);
        Check.due("all are right", small(STUB, RIGHT, RIGHT), 0);
        ran("OneTest", true);
        ran("TwoTest", true);
        ran("OneRuns", true);
        Check.due("one of the project's fails", small(STUB, WRONG, RIGHT) != 0, true);
        ran("OneTest", true);
        ran("TwoTest", true);
        ran("OneRuns", true);
        Check.due("one of the shared ones fails", small(STUB, RIGHT, WRONG) != 0, true);
        ran("OneRuns", true);
        Check.due("one of the project's doesn't compile", small(STUB, BROKEN, RIGHT) != 0, true);
        ran("OneTest", false);
        Check.due("one of the shared ones doesn't compile", small(STUB, RIGHT, BROKEN) != 0, true);
        ran("OneRuns", false);
        Check.due("the class doesn't compile", small("public final class ExcuseMarket {", RIGHT, RIGHT) != 0, true);
        ran("OneTest", false);
    }

    private void ran(String name, boolean due) {
        Check.due(name + " ran", printed.lines().anyMatch(line -> line.equals(name + " ran")), due);
    }

    /** A project with the script, a class, two tests of its own and one of the shared ones. */
    private int small(String source, String own, String shared) throws Exception {
        Path all = Files.createTempDirectory("small");
        Path project = all.resolve("main");
        copy(commands.get(1).trim(), project);
        write(project.resolve(CLASS), source);
        write(project.resolve(TESTS + "/OneTest.java"), program("OneTest", own));
        write(project.resolve(TESTS + "/TwoTest.java"), program("TwoTest", RIGHT));
        write(all.resolve("shared/tests/OneRuns.java"), program("OneRuns", shared));
        int code = run(project, commands.get(1));
        remove(all);
        return code;
    }

    private static String program(String name, String body) {
        return "public final class NAME { public static void main(String[] a) { new ExcuseMarket(); BODY } }"
            .replace("BODY", body).replace("NAME", name);
    }

    private void others() throws Exception {
        Check.sentence("README's command for other runs of ModelTest");
        Path project = Files.createTempDirectory("others");
        copy(CLASS, project);
        try (Stream<Path> files = Files.list(Path.of(TESTS))) {
            for (Path file : files.collect(Collectors.toList())) {
                copy(TESTS + "/" + file.getFileName(), project);
            }
        }
        Check.due("its end", run(project, commands.get(2)), 0);
        Check.due("runs told", printed.contains("ModelTest: "), true);
        Check.due("commands", commands.size(), 3);
        remove(project);
    }
}
