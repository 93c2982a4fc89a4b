import java.io.IOException;
import java.io.StringWriter;
import java.lang.reflect.Method;
import java.lang.reflect.Modifier;
import java.net.URL;
import java.net.URLClassLoader;
import java.nio.file.Files;
import java.nio.file.Path;
import java.util.ArrayList;
import java.util.List;
import java.util.Set;
import java.util.TreeSet;
import java.util.regex.Matcher;
import java.util.regex.Pattern;
import java.util.stream.Stream;
import javax.tools.JavaCompiler;
import javax.tools.ToolProvider;

/** README.md: the calls that it shows compile and answer as it says, and it names the tests that there are. */
public final class ReadmeTest {
    private static final Pattern MAKING = Pattern.compile("RxQueues x = new RxQueues\\(\\);");
    private static final Pattern ROW = Pattern.compile(
        "(?:(?<type>int|long|boolean) (?<name>\\w+) = )?(?<call>x\\.(?<method>\\w+)\\([^;]*\\));"
            + " +// (?<answer>-?\\d+|true|false|RxQueues\\.NONE)(?:: .+)?");

    private final Check check = new Check();
    private final String readme;

    private ReadmeTest() throws IOException {
        readme = Files.readString(Path.of("README.md"));
    }

    public static void main(String[] args) throws Exception {
        ReadmeTest one = new ReadmeTest();
        List<String> rows = one.shownRows();
        one.everyRowTellsItsAnswer(rows);
        one.everyCallIsShown(rows);
        one.rowsAnswerAsTold(rows);
        one.namesTheTestsThatThereAre();
        one.commandsDoAsTold();
        one.check.finish();
    }

    private List<String> shownRows() {
        List<String> rows = new ArrayList<>();
        Matcher block = Pattern.compile("(?s)```java\n(.*?)```").matcher(readme);
        while (block.find()) {
            rows.addAll(block.group(1).lines().filter(row -> !row.isBlank()).toList());
        }
        check.due("README shows calls", !rows.isEmpty(), true);
        return rows;
    }

    private void everyRowTellsItsAnswer(List<String> rows) {
        for (String row : rows) {
            boolean told = MAKING.matcher(row).matches() || ROW.matcher(row).matches();
            check.due("'" + row + "' tells its answer", told, true);
        }
        check.due("no more calls than an object is good for", rows.size() <= 512, true);
    }

    private void everyCallIsShown(List<String> rows) {
        Set<String> shown = new TreeSet<>();
        for (String row : rows) {
            Matcher m = ROW.matcher(row);
            if (m.matches()) {
                shown.add(m.group("method"));
            }
        }
        for (Method m : RxQueues.class.getDeclaredMethods()) {
            if (Modifier.isPublic(m.getModifiers())) {
                check.due("README shows " + m.getName(), shown.contains(m.getName()), true);
            }
        }
    }

    /** The rows are compiled as they stand, and once more with what each of them answered kept. */
    private void rowsAnswerAsTold(List<String> rows) throws Exception {
        StringBuilder source = new StringBuilder("public final class ReadmeUse {\n");
        source.append("  static void asShown() {\n").append(String.join("\n", rows)).append("\n  }\n");
        source.append("  public static Object[] answers() {\n");
        source.append("    java.util.List<Object> all = new java.util.ArrayList<>();\n");
        List<Matcher> calls = new ArrayList<>();
        for (String row : rows) {
            Matcher m = ROW.matcher(row);
            if (!m.matches()) {
                source.append(row).append('\n');
                continue;
            }
            calls.add(m);
            if (m.group("name") == null) {
                source.append("    all.add(").append(m.group("call")).append(");\n");
            } else {
                source.append(row).append("\n    all.add(").append(m.group("name")).append(");\n");
            }
        }
        source.append("    return all.toArray();\n  }\n}\n");
        Object[] answers = compiledAndRun(source.toString());
        check.due("answers of README's calls", answers.length, calls.size());
        for (int i = 0; i < Math.min(answers.length, calls.size()); i++) {
            String told = calls.get(i).group("answer").replace("RxQueues.NONE", Integer.toString(RxQueues.NONE));
            String call = "README, " + calls.get(i).group("call");
            check.due(call + " answered " + answers[i] + ", told is " + told, answers[i].toString().equals(told), true);
        }
    }

    private Object[] compiledAndRun(String source) throws Exception {
        JavaCompiler compiler = ToolProvider.getSystemJavaCompiler();
        Path dir = Files.createTempDirectory("readme");
        try {
            Path file = Files.writeString(dir.resolve("ReadmeUse.java"), source);
            int code = compiler.run(null, null, null, "-d", dir.toString(), "src/main/java/RxQueues.java",
                file.toString());
            check.due("README's calls compile", code, 0);
            if (code != 0) {
                return new Object[0];
            }
            try (URLClassLoader loader = new URLClassLoader(new URL[] {dir.toUri().toURL()},
                    ClassLoader.getPlatformClassLoader())) {
                return (Object[]) loader.loadClass("ReadmeUse").getMethod("answers").invoke(null);
            }
        } finally {
            Trees.takeAway(dir);
        }
    }

    private void namesTheTestsThatThereAre() throws IOException {
        Set<String> named = new TreeSet<>();
        Matcher m = Pattern.compile("`(\\w+Test)`").matcher(readme);
        while (m.find()) {
            named.add(m.group(1));
        }
        Set<String> there = new TreeSet<>();
        try (Stream<Path> files = Files.list(Path.of("src/test/java"))) {
            files.map(file -> file.getFileName().toString()).filter(name -> name.endsWith("Test.java"))
                .forEach(name -> there.add(name.substring(0, name.length() - ".java".length())));
        }
        for (String test : there) {
            check.due("README names " + test, named.contains(test), true);
        }
        for (String test : named) {
            check.due("there is " + test, there.contains(test), true);
        }
    }

    /** Rows set in by four blanks are commands; .ci/run itself runs this test, so CiTest looks at what it does. */
    private void commandsDoAsTold() throws Exception {
        StringWriter others = new StringWriter();
        boolean wholeRun = false;
        for (String row : readme.split("\n")) {
            if (row.equals("    .ci/run")) {
                wholeRun = true;
            } else if (row.startsWith("    ")) {
                others.append(row.strip()).append('\n');
            }
        }
        check.due("README tells .ci/run", wholeRun, true);
        check.due(".ci/run can be run", Files.isExecutable(Path.of(".ci/run")), true);
        check.due("README tells how to run one test", others.toString().contains("java -cp"), true);
        String thenTakeAway = "trap 'rm -rf \"$out\"' EXIT\n";
        check.due("README's commands end with", Trees.run(Path.of("."), "sh", "-e", "-c", thenTakeAway + others), 0);
    }
}
