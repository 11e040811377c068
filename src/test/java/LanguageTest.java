import java.io.IOException;
import java.lang.reflect.Field;
import java.lang.reflect.Member;
import java.lang.reflect.Method;
import java.lang.reflect.Modifier;
import java.nio.file.Files;
import java.nio.file.Path;
import java.util.ArrayList;
import java.util.Arrays;
import java.util.HashMap;
import java.util.HashSet;
import java.util.List;
import java.util.Map;
import java.util.Set;
import java.util.TreeSet;
import java.util.regex.Matcher;
import java.util.regex.Pattern;

/** The document's face, and those rules of LANGUAGE.md that a test can see. */
public final class LanguageTest {
    private static final String SOURCE = "src/main/java/MarketSpring.java";
    private static final String[] FACE = {"type(int)int", "wipe()int", "fault()int", "thing(int,int)int",
        "handle(int)int", "group(int,int)int", "set(int,int)int", "shut(int,int)int", "shift(int,int)int",
        "read(int)int", "goes(int)int", "toil(int)int", "wound(int)int", "level(int,int)int",
        "stands(int,int)int", "stood(int,int)int", "lost(int)int", "flow(int)int", "worst(int,int)int",
        "fewest(int)int", "place(int,int)int", "best(int)int", "lasts()int", "seen(int,int)int", "forget()int",
        "unlike()int", "thief(int)int", "robbed(int,int,int)int", "sheet(int,int,int)int", "lose(int)int",
        "put(int,int,int,int)int", "get(int,int,int)int", "copy(int,int,int,int,int)int", "write(int,int)int",
        "count(int)int", "digest()long"};
    private static final String[] NEVER = {"throw", "throws", "try", "catch", "finally", "synchronized", "assert",
        "volatile", "native", "protected", "package", "yield", "var", "equals", "hashCode", "toString", "Object",
        "System.out", "Thread", "Random", "Map", "Set", "Exact", "nanoTime", "currentTimeMillis"};
    /** Rule 4 lists functions, and no constant of the library. */
    private static final Set<String> LIBRARY = Set.of("Integer.bitCount", "Math.min", "Math.max", "System.arraycopy",
        "Arrays.fill");
    private static final Pattern METHOD = Pattern.compile(
        "^( {4}| {8})(?:public |private |static )*(?:[A-Za-z\\[\\]]+ )?([A-Za-z]+)\\(([^)]*)\\) \\{$");

    private static final Check c = new Check();

    public static void main(String[] args) throws IOException {
        constants();
        face();
        nested();
        staticFields();
        List<String> code = code();
        words(code);
        library(code);
        methods(code);
        c.end();
    }

    private static void constants() {
        c.due("NONE", MarketSpring.NONE, -1);
        c.due("BAD", MarketSpring.BAD, -2);
        c.due("NOT", MarketSpring.NOT, -3);
        c.due("FULL", MarketSpring.FULL, -4);
    }

    private static void face() {
        Class<?> x = MarketSpring.class;
        c.holds("public and final", Modifier.isPublic(x.getModifiers()) && Modifier.isFinal(x.getModifiers()));
        c.due("constructors", x.getDeclaredConstructors().length, 1);
        c.due("public constructors without arguments", x.getConstructors()[0].getParameterCount(), 0);
        Set<String> told = new TreeSet<>();
        for (Method m : x.getDeclaredMethods()) {
            hidden(m, Modifier.isPublic(m.getModifiers()));
            if (Modifier.isPublic(m.getModifiers())) {
                c.holds(m + " is not static", !Modifier.isStatic(m.getModifiers()));
                List<String> types = new ArrayList<>();
                Arrays.stream(m.getParameterTypes()).forEach(t -> types.add(t.getName()));
                told.add(m.getName() + "(" + String.join(",", types) + ")" + m.getReturnType().getName());
            }
        }
        c.holds("the face: " + told, told.equals(new TreeSet<>(Arrays.asList(FACE))));
        Set<String> fields = new TreeSet<>();
        for (Field f : x.getDeclaredFields()) {
            hidden(f, Modifier.isPublic(f.getModifiers()));
            if (Modifier.isPublic(f.getModifiers())) {
                fields.add(f.getName());
            }
        }
        c.holds("constants: " + fields, fields.equals(new TreeSet<>(List.of("NONE", "BAD", "NOT", "FULL"))));
    }

    private static void hidden(Member m, boolean told) {
        c.holds(m + " is public or private", told || Modifier.isPrivate(m.getModifiers()));
    }

    private static void nested() {
        Class<?>[] inside = MarketSpring.class.getDeclaredClasses();
        c.holds("twelve classes at most", inside.length + 1 <= 12);
        Set<String> names = new HashSet<>();
        for (String m : FACE) {
            names.add(m.substring(0, m.indexOf('(')));
        }
        for (Class<?> k : inside) {
            c.holds(k + " is static", Modifier.isStatic(k.getModifiers()));
            c.holds(k + " is not of the face", !Modifier.isPublic(k.getModifiers()));
            c.holds(k + " has twenty fields at most", k.getDeclaredFields().length <= 20);
            for (Method m : k.getDeclaredMethods()) {
                c.holds(m + " has no name of the face", !names.contains(m.getName()));
            }
        }
        for (Method m : MarketSpring.class.getDeclaredMethods()) {
            c.holds(m + " is public or has another name",
                Modifier.isPublic(m.getModifiers()) || !names.contains(m.getName()));
        }
    }

    private static void staticFields() {
        for (Field f : MarketSpring.class.getDeclaredFields()) {
            if (Modifier.isStatic(f.getModifiers())) {
                c.holds(f + " is final", Modifier.isFinal(f.getModifiers()));
                c.holds(f + " is an int or a row of ints", f.getType() == int.class || f.getType() == int[].class);
            }
        }
    }

    private static List<String> code() throws IOException {
        List<String> code = new ArrayList<>();
        for (String line : Files.readAllLines(Path.of(SOURCE))) {
            String trimmed = line.trim();
            if (!trimmed.startsWith("//") && !trimmed.startsWith("/*") && !trimmed.startsWith("*")) {
                code.add(line);
            }
        }
        return code;
    }

    private static void words(List<String> code) {
        for (String line : code) {
            for (String word : NEVER) {
                c.holds("'" + word + "' is not in: " + line,
                    !Pattern.compile("\\b" + Pattern.quote(word) + "\\b").matcher(line).find());
            }
            c.holds("no lambda, reference, annotation or text in: " + line,
                !line.contains("->") && !line.contains("::") && !line.contains("@") && !line.contains("\""));
            c.holds("no other import: " + line, !line.startsWith("import") || line.equals("import java.util.Arrays;"));
            c.holds("120 signs at most: " + line, line.length() <= 120);
        }
    }

    private static void library(List<String> code) {
        Pattern used = Pattern.compile("\\b[A-Z][A-Za-z]*\\.[A-Za-z_]+");
        for (String line : code) {
            Matcher m = used.matcher(line);
            while (m.find()) {
                c.holds("rule 4 lists " + m.group(), LIBRARY.contains(m.group()));
            }
        }
    }

    /** Lengths, parameters, and how deep the calls go; like names in two classes count as one. */
    private static void methods(List<String> code) {
        Map<String, Set<String>> calls = new HashMap<>();
        String name = null;
        String margin = "";
        int length = 0;
        for (String line : code) {
            Matcher m = METHOD.matcher(line);
            if (name == null && m.matches()) {
                name = m.group(2);
                margin = m.group(1);
                length = 0;
                calls.putIfAbsent(name, new HashSet<>());
                c.holds(name + " has seven parameters at most", m.group(3).split(",").length <= 7);
            } else if (name != null && line.equals(margin + "}")) {
                c.holds(name + " has sixty lines at most", length <= 60);
                name = null;
            } else if (name != null) {
                length++;
                Matcher call = Pattern.compile("([A-Za-z]+)\\(").matcher(line);
                while (call.find()) {
                    calls.get(name).add(call.group(1));
                }
            }
        }
        c.holds("methods are seen: " + calls.size(), calls.size() > 60);
        for (String start : calls.keySet()) {
            int deep = depth(calls, start, new ArrayList<>());
            c.holds(start + " goes eight deep at most: " + deep, deep <= 8);
        }
    }

    private static int depth(Map<String, Set<String>> calls, String name, List<String> open) {
        c.holds("no recursion: " + open + " " + name, !open.contains(name));
        if (open.contains(name)) {
            return 0;
        }
        open.add(name);
        int deepest = 0;
        for (String next : calls.get(name)) {
            if (calls.containsKey(next)) {
                deepest = Math.max(deepest, depth(calls, next, open));
            }
        }
        open.remove(name);
        return deepest + 1;
    }
}
