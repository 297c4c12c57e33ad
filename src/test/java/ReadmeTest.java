import java.io.IOException;
import java.lang.reflect.Method;
import java.lang.reflect.Modifier;
import java.net.URL;
import java.net.URLClassLoader;
import java.nio.file.Files;
import java.nio.file.Path;
import java.util.ArrayList;
import java.util.Comparator;
import java.util.List;
import java.util.function.BiConsumer;
import java.util.function.Consumer;
import java.util.regex.Matcher;
import java.util.regex.Pattern;
import java.util.stream.Stream;

/** README.md: each call in its blocks of Java answers what stands behind it, and no call of the class is left out. */
public final class ReadmeTest {
    private static final Checks CHECKS = new Checks("ReadmeTest");
    private static final Pattern BLOCK = Pattern.compile("```java\n(.*?)```", Pattern.DOTALL);
    private static final Pattern ANSWERED = Pattern.compile("(office\\..*\\));\\s*// (-?\\d+|true|false)(:.*)?");
    private static final String PROGRAM = "ReadmeCalls";

    private static List<String> blocks(String readme) {
        List<String> found = new ArrayList<>();
        Matcher matcher = BLOCK.matcher(readme);
        while (matcher.find()) {
            found.add(matcher.group(1));
        }
        return found;
    }

    /** A block that begins with 'static' is a method; all others are calls, one behind the other. */
    private static String program(List<String> blocks) {
        StringBuilder methods = new StringBuilder();
        StringBuilder calls = new StringBuilder();
        for (String block : blocks) {
            if (block.startsWith("static ")) {
                methods.append(block);
            } else {
                block.lines().forEach(line -> calls.append(checked(line)).append('\n'));
            }
        }
        return "import java.util.function.*;\n"
                + "public final class " + PROGRAM + " implements Consumer<BiConsumer<String, Object[]>> {\n" + methods
                + "public void accept(BiConsumer<String, Object[]> answers) {\n" + calls + "}\n}\n";
    }

    private static String checked(String line) {
        Matcher matcher = ANSWERED.matcher(line);
        if (!matcher.matches()) {
            return line;
        }
        String call = matcher.group(1);
        return "answers.accept(\"" + call + "\", new Object[] {" + call + ", " + matcher.group(2) + "});";
    }

    private static void everyCallIsAnswered(List<String> blocks) {
        for (String block : blocks) {
            block.lines().filter(line -> line.startsWith("office."))
                    .forEach(line -> CHECKS.same("an answer behind " + line, ANSWERED.matcher(line).matches(), true));
        }
    }

    private static void everyCallIsNamed(String readme) {
        for (Method method : AfterOffice.class.getDeclaredMethods()) {
            if (Modifier.isPublic(method.getModifiers())) {
                String name = method.getName();
                CHECKS.same(name + " is told", readme.contains("`" + name + "("), true);
                CHECKS.same(name + " is shown", readme.contains("office." + name + "("), true);
            }
        }
    }

    private static void makeCalls(List<String> blocks) throws Exception {
        Path dir = Files.createTempDirectory("readme");
        try {
            Path file = Files.writeString(dir.resolve(PROGRAM + ".java"), program(blocks));
            String with = System.getProperty("java.class.path");
            int exit = new ProcessBuilder("javac", "-cp", with, "-d", dir.toString(), file.toString())
                    .inheritIO().start().waitFor();
            CHECKS.same("javac of the calls in README.md", exit, 0);
            if (exit == 0) {
                callsOf(dir).accept((call, both) -> CHECKS.same(call, "" + both[0], "" + both[1]));
            }
        } finally {
            remove(dir);
        }
    }

    @SuppressWarnings("unchecked")
    private static Consumer<BiConsumer<String, Object[]>> callsOf(Path dir) throws Exception {
        URL[] urls = {dir.toUri().toURL()};
        try (URLClassLoader loader = new URLClassLoader(urls, ReadmeTest.class.getClassLoader())) {
            Object calls = loader.loadClass(PROGRAM).getDeclaredConstructor().newInstance();
            return (Consumer<BiConsumer<String, Object[]>>) calls;
        }
    }

    private static void remove(Path dir) throws IOException {
        try (Stream<Path> all = Files.walk(dir)) {
            for (Path path : all.sorted(Comparator.reverseOrder()).toList()) {
                Files.delete(path);
            }
        }
    }

    public static void main(String[] args) throws Exception {
        Path root = Path.of(args.length > 0 ? args[0] : ".");
        String readme = Files.readString(root.resolve("README.md"));
        List<String> blocks = blocks(readme);
        everyCallIsAnswered(blocks);
        everyCallIsNamed(readme);
        makeCalls(blocks);
        CHECKS.same("how to run the tests", readme.contains("bash .ci/run"), true);
        CHECKS.same(".ci/run is there", Files.exists(root.resolve(".ci/run")), true);
        CHECKS.end();
    }
}
