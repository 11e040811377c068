import java.io.IOException;
import java.lang.reflect.Method;
import java.lang.reflect.Modifier;
import java.nio.file.DirectoryStream;
import java.nio.file.Files;
import java.nio.file.Path;
import java.util.List;
import java.util.regex.Matcher;
import java.util.regex.Pattern;

/** README.md: each answer that its examples tell, each call and each test by name, and its table of settings. */
public final class ReadmeTest {
    private static final Path README = Path.of("README.md");
    private static final Path TESTS = Path.of("src/test/java");
    private static final Pattern TYPED = Pattern.compile("^for \\(char b : \"([^\"]*)\"\\.toCharArray\\(\\)\\) \\{$");
    private static final Pattern CALL = Pattern.compile("^x\\.([a-z]+)\\(([^)]*)\\); +// (-?[0-9]+)\\b.*$");
    private static final Pattern SETTING = Pattern.compile(
        "^\\| ([0-8]) \\| [A-Z]+ \\| ([0-9]+) \\| ([0-9]+) \\| ([0-9]+) \\|.*$");
    private static final Check c = new Check();

    public static void main(String[] args) throws IOException, ReflectiveOperationException {
        List<String> lines = Files.readAllLines(README);
        examples(lines);
        settings(lines);
        callsByName(String.join("\n", lines));
        testsByName(String.join("\n", lines));
        c.end();
    }

    private static void examples(List<String> lines) throws ReflectiveOperationException {
        c.about("README: examples");
        MarketSpring x = null;
        int rows = 0;
        for (String line : lines) {
            Matcher typed = TYPED.matcher(line);
            Matcher call = CALL.matcher(line);
            if (line.equals("MarketSpring x = new MarketSpring();")) {
                x = new MarketSpring();
            } else if (x != null && typed.matches()) {
                Check.typeAll(x, typed.group(1));
            } else if (x != null && call.matches()) {
                rows++;
                c.due(line, answer(x, call.group(1), call.group(2)), Long.parseLong(call.group(3)));
            } else {
                c.holds("a call without an answer: " + line, !line.startsWith("x."));
            }
        }
        c.holds("rows are seen: " + rows, rows > 30);
    }

    private static long answer(MarketSpring x, String name, String told) throws ReflectiveOperationException {
        String[] numbers = told.isEmpty() ? new String[0] : told.split(", *");
        Object[] arguments = new Object[numbers.length];
        Class<?>[] types = new Class<?>[numbers.length];
        for (int i = 0; i < numbers.length; i++) {
            arguments[i] = Integer.parseInt(numbers[i]);
            types[i] = int.class;
        }
        return ((Number) MarketSpring.class.getMethod(name, types).invoke(x, arguments)).longValue();
    }

    private static void settings(List<String> lines) {
        c.about("README: the settings");
        int rows = 0;
        for (String line : lines) {
            Matcher m = SETTING.matcher(line);
            if (m.matches()) {
                int what = Integer.parseInt(m.group(1));
                int least = Integer.parseInt(m.group(2));
                int most = Integer.parseInt(m.group(3));
                MarketSpring x = new MarketSpring();
                c.due(line + ": below", x.set(what, least - 1), -5);
                c.due(line + ": above", x.set(what, most + 1), -5);
                c.due(line + ": at first", x.set(what, least), Integer.parseInt(m.group(4)));
                c.due(line + ": least", x.set(what, most), least);
                c.due(line + ": most", x.set(what, most), most);
                c.due("in their order", what, rows);
                rows++;
            }
        }
        c.due("nine settings", rows, 9);
    }

    private static void callsByName(String page) {
        c.about("README: every call");
        for (Method m : MarketSpring.class.getDeclaredMethods()) {
            if (Modifier.isPublic(m.getModifiers())) {
                Matcher told = Pattern.compile("`" + m.getName() + "\\(([^)]*)\\)`").matcher(page);
                c.holds(m.getName() + " is in the table of calls", told.find());
                int many = told.group(1).isEmpty() ? 0 : told.group(1).split(",").length;
                c.due("arguments of " + m.getName(), many, m.getParameterCount());
            }
        }
    }

    private static void testsByName(String page) throws IOException {
        c.about("README: every test");
        try (DirectoryStream<Path> files = Files.newDirectoryStream(TESTS, "*Test.java")) {
            for (Path file : files) {
                String name = file.getFileName().toString().replace(".java", "");
                c.holds(name + " is in the table of tests", page.contains("| `" + name + "` |"));
            }
        }
    }
}
