import java.io.IOException;
import java.net.URL;
import java.net.URLClassLoader;
import java.nio.file.Files;
import java.nio.file.Path;
import java.util.ArrayList;
import java.util.Comparator;
import java.util.List;
import java.util.Set;
import java.util.TreeSet;
import java.util.concurrent.Callable;
import java.util.regex.Matcher;
import java.util.regex.Pattern;
import java.util.stream.Stream;
import javax.tools.JavaCompiler;
import javax.tools.ToolProvider;

/**
 * README.md holds: its example compiles as it stands, each call that has an answer behind it answers just that, and the
 * command that it names runs every test there is.
 */
public final class Readme {
    private static final Pattern BLOCK = Pattern.compile("```(\\w*)\n(.*?)```", Pattern.DOTALL);
    private static final Pattern SHOWN = Pattern.compile("( *)(x\\.(\\w+)\\(.*?\\)); *// (-?\\d+|true|false|throws \\w+): .*");
    private static final Pattern CALL = Pattern.compile(" *x\\.\\w+\\(.*\\);.*");
    private static int shown = 0;
    private static int wrong = 0;

    public static void main(String[] args) throws Exception {
        String page = Files.readString(Path.of("README.md"));
        example(page);
        tests(page);
        commands(page);
        System.out.println(shown + " calls shown, " + wrong + " not as due");
        if (wrong != 0 || shown == 0) System.exit(1);
    }

    private static void fail(String what) {
        wrong++;
        System.out.println("README.md: " + what);
    }

    /** Called by the example once its lines with an answer are put in place. */
    public static void due(String line, String want, Callable<Object> call) {
        shown++;
        String got;
        try {
            got = String.valueOf(call.call());
        } catch (Exception e) {
            got = "throws " + e.getClass().getSimpleName();
        }
        if (!got.equals(want)) fail(line + " answered " + got);
    }

    private static List<String> blocks(String page, String language) {
        List<String> found = new ArrayList<>();
        Matcher m = BLOCK.matcher(page);
        while (m.find()) if (m.group(1).equals(language)) found.add(m.group(2));
        return found;
    }

    private static void example(String page) throws Exception {
        List<String> found = blocks(page, "java");
        if (found.size() != 1) {
            fail("there are " + found.size() + " examples");
            return;
        }
        String plain = found.get(0);
        StringBuilder checked = new StringBuilder();
        boolean inMain = false;
        for (String line : plain.split("\n")) {
            inMain = inMain || line.contains("void main");
            Matcher m = SHOWN.matcher(line);
            if (m.matches()) {
                String quoted = line.trim().replace("\\", "\\\\").replace("\"", "\\\"");
                checked.append(String.format("Readme.due(\"%s\", \"%s\", () -> %s);%n", quoted, m.group(4), m.group(2)));
            } else {
                if (inMain && CALL.matcher(line).matches() && !line.contains("x.image();")) fail("no answer is shown: " + line.trim());
                checked.append(line).append("\n");
            }
        }
        Path dir = Files.createTempDirectory("readme");
        try {
            compile(dir.resolve("plain"), plain);
            if (compile(dir.resolve("checked"), checked.toString())) run(dir.resolve("checked"));
        } finally {
            remove(dir);
        }
    }

    private static boolean compile(Path dir, String source) throws IOException {
        JavaCompiler compiler = ToolProvider.getSystemJavaCompiler();
        if (compiler == null) throw new IllegalStateException("there is no compiler");
        Files.createDirectories(dir);
        Path file = Files.writeString(dir.resolve("Example.java"), source);
        int exit = compiler.run(null, null, null, "-cp", System.getProperty("java.class.path"), "-d", dir.toString(), file.toString());
        if (exit != 0) fail("the example does not compile");
        return exit == 0;
    }

    private static void run(Path dir) throws Exception {
        try (URLClassLoader loader = new URLClassLoader(new URL[] {dir.toUri().toURL()}, Readme.class.getClassLoader())) {
            loader.loadClass("Example").getMethod("main", String[].class).invoke(null, (Object) new String[0]);
        }
    }

    private static void remove(Path dir) throws IOException {
        try (Stream<Path> all = Files.walk(dir)) {
            for (Path p : all.sorted(Comparator.reverseOrder()).toList()) Files.delete(p);
        }
    }

    /** Each file of tests is named on the page, each that is named there is, and each but the model can be run. */
    private static void tests(String page) throws IOException {
        Set<String> named = new TreeSet<>();
        Matcher m = Pattern.compile("`tests/(\\w+)\\.java`").matcher(page);
        while (m.find()) named.add(m.group(1));
        Set<String> there = new TreeSet<>();
        try (Stream<Path> all = Files.list(Path.of("tests"))) {
            for (Path p : all.toList()) there.add(p.getFileName().toString().replace(".java", ""));
        }
        if (!named.equals(there)) fail("names " + named + ", but there are " + there);
        for (String name : there) {
            boolean canRun = Files.readString(Path.of("tests", name + ".java")).contains("public static void main");
            if (canRun == name.equals("Model")) fail("tests/" + name + ".java " + (canRun ? "can" : "cannot") + " be run");
        }
    }

    /** The command is .ci/run, which goes through all files of both directories. */
    private static void commands(String page) throws IOException {
        List<String> found = blocks(page, "sh");
        if (found.isEmpty() || !found.get(0).equals(".ci/run\n")) fail("does not name the command");
        Path script = Path.of(".ci/run");
        if (!Files.isExecutable(script)) {
            fail(".ci/run cannot be run");
            return;
        }
        String text = Files.readString(script);
        for (String part : List.of("\"$root\"/tests/*.java", "\"$shared\"/tests/*.java")) {
            if (!text.contains(part)) fail(".ci/run does not go through " + part);
        }
    }
}
