import java.lang.reflect.Method;
import java.lang.reflect.Modifier;
import java.net.URI;
import java.net.URL;
import java.net.URLClassLoader;
import java.nio.file.Files;
import java.nio.file.Path;
import java.util.ArrayList;
import java.util.List;
import java.util.Set;
import java.util.TreeSet;
import java.util.function.LongConsumer;
import java.util.regex.Matcher;
import java.util.regex.Pattern;
import java.util.stream.Stream;
import javax.tools.JavaCompiler;
import javax.tools.JavaFileObject;
import javax.tools.SimpleJavaFileObject;
import javax.tools.ToolProvider;

/** README.md: its blocks of Java are compiled and run as they stand, and each call has to answer what is told there. */
public final class ReadmeTest {
    private static final Checks CHECKS = new Checks();
    private static final Pattern BLOCK = Pattern.compile("(?ms)^```java\n(.*?)^```$");
    private static final Pattern NEW = Pattern.compile("PlusCodes x = new PlusCodes\\(\\);");
    private static final Pattern CALL = Pattern.compile("(x\\.(\\w+)\\([^()]*\\)); +// (-?\\d+): \\S.*");
    private static final Pattern LOOP = Pattern.compile("for \\(char c : \"[^\"]*\"(\\.repeat\\(\\d+\\))?\\.toCharArray\\(\\)\\) \\{|    x\\.type\\(c\\);|\\}");
    private static final Pattern CONSTANT = Pattern.compile("`([A-Z]+)`\\s\\((-?\\d+)\\)");

    private final List<String> calls = new ArrayList<>();
    private final List<Long> told = new ArrayList<>();
    private final Set<String> names = new TreeSet<>();

    public static void main(String[] args) throws Exception {
        CHECKS.part("README.md");
        String page = Files.readString(Path.of("README.md"));
        ReadmeTest test = new ReadmeTest();
        test.run(page);
        test.noAnswerIsPassedOver(page);
        constants(page);
        CHECKS.holds("it says how an object is made", page.contains("`new PlusCodes()`"));
        CHECKS.holds("it says with which command all tests are run", page.contains("```sh\n.ci/run\n```"));
        CHECKS.holds("that command is there", Files.isExecutable(Path.of(".ci/run")));
        everyTestIsNamed(page);
        CHECKS.end();
    }

    private void run(String page) throws Exception {
        List<Long> got = answers(page);
        CHECKS.due("calls that were run", got.size(), told.size());
        for (int k = 0; k < Math.min(got.size(), told.size()); k++) {
            CHECKS.due(calls.get(k), got.get(k), told.get(k));
        }
        Set<String> face = new TreeSet<>();
        for (Method m : PlusCodes.class.getDeclaredMethods()) {
            if (Modifier.isPublic(m.getModifiers())) {
                face.add(m.getName());
            }
        }
        CHECKS.holds("each call of the face is shown: " + names, names.equals(face));
    }

    private List<Long> answers(String page) throws Exception {
        StringBuilder body = new StringBuilder();
        Matcher block = BLOCK.matcher(page);
        while (block.find()) {
            body.append("{\n");
            for (String line : block.group(1).split("\n")) {
                body.append(asked(line)).append("\n");
            }
            body.append("}\n");
        }
        List<Long> got = new ArrayList<>();
        compiled(body.toString()).invoke(null, (LongConsumer) got::add);
        return got;
    }

    /** The line as it stands, but that a call's answer is handed out. */
    private String asked(String line) {
        Matcher call = CALL.matcher(line);
        if (call.matches()) {
            calls.add(call.group(1));
            names.add(call.group(2));
            told.add(Long.parseLong(call.group(3)));
            return "answer.accept(" + call.group(1) + ");";
        }
        CHECKS.holds("a line is a new object, a call with its answer or a text typed: " + line,
            NEW.matcher(line).matches() || LOOP.matcher(line).matches());
        return line;
    }

    private static Method compiled(String body) throws Exception {
        String source = "public final class ReadmeCalls {\n"
            + "public static void run(java.util.function.LongConsumer answer) {\n" + body + "}\n}\n";
        Path out = Files.createTempDirectory("readme");
        JavaCompiler javac = ToolProvider.getSystemJavaCompiler();
        List<String> how = List.of("-d", out.toString(), "-cp", System.getProperty("java.class.path"));
        boolean taken = javac.getTask(null, null, null, how, null, List.of(inMemory(source))).call();
        CHECKS.holds("the page's Java compiles", taken);
        try (URLClassLoader loader = new URLClassLoader(new URL[] {out.toUri().toURL()}, ReadmeTest.class.getClassLoader())) {
            return loader.loadClass("ReadmeCalls").getMethod("run", LongConsumer.class);
        } finally {
            remove(out);
        }
    }

    private static void remove(Path directory) throws Exception {
        try (Stream<Path> files = Files.list(directory)) {
            for (Path file : files.toList()) {
                Files.delete(file);
            }
        }
        Files.delete(directory);
    }

    private static JavaFileObject inMemory(String source) {
        return new SimpleJavaFileObject(URI.create("string:///ReadmeCalls.java"), JavaFileObject.Kind.SOURCE) {
            @Override
            public CharSequence getCharContent(boolean ignored) {
                return source;
            }
        };
    }

    /** No line of the page tells an answer that the pattern of calls would pass over. */
    private void noAnswerIsPassedOver(String page) {
        long remarks = page.lines().filter(line -> line.contains("// ")).count();
        CHECKS.due("lines with a remark behind a call", remarks, told.size());
        CHECKS.holds("there are some", remarks > 0);
    }

    private static void constants(String page) throws Exception {
        Set<String> seen = new TreeSet<>();
        Matcher constant = CONSTANT.matcher(page);
        while (constant.find()) {
            seen.add(constant.group(1));
            int value = PlusCodes.class.getField(constant.group(1)).getInt(null);
            CHECKS.due(constant.group(1), value, Integer.parseInt(constant.group(2)));
        }
        CHECKS.holds("each constant is told: " + seen, seen.equals(Set.of("NONE", "BAD", "NO", "FULL")));
    }

    private static void everyTestIsNamed(String page) throws Exception {
        try (Stream<Path> files = Files.list(Path.of("src/test/java"))) {
            for (Path file : files.toList()) {
                String name = file.getFileName().toString().replace(".java", "");
                CHECKS.holds(name + " is named", !name.endsWith("Test") || page.contains("`" + name + "`"));
            }
        }
    }
}
