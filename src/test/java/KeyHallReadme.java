import java.lang.reflect.Method;
import java.lang.reflect.Modifier;
import java.nio.file.Files;
import java.nio.file.Path;
import java.util.Set;
import java.util.TreeSet;
import java.util.regex.Matcher;
import java.util.regex.Pattern;
import java.util.stream.Stream;

/** What README.md says is so: its examples, made one after the other on one object, and its list of tests. */
public final class KeyHallReadme {
    private static final Path README = Path.of("README.md");
    private static final Path TESTS = Path.of("src/test/java");

    private static final String MADE = "KeyHall hall = new KeyHall(0);";
    private static final Pattern EXAMPLE =
        Pattern.compile("hall\\.(\\w+)\\(([^)]*)\\);\\s+// (-?\\d+|[A-Z]+|true|false)(:.*)?");
    private static final Pattern TEST = Pattern.compile("`(KeyHall[A-Z]\\w*)`");

    private static int wrong = 0;

    private static void check(boolean right, String fault) {
        if (!right) {
            wrong++;
            System.out.println(fault);
        }
    }

    public static void main(String[] args) throws Exception {
        examples();
        constants();
        namesOfTests();
        System.out.println(wrong == 0 ? "README.md is as due" : wrong + " faults of README.md");
        if (wrong != 0) {
            System.exit(1);
        }
    }

    private static void examples() throws Exception {
        KeyHall hall = null;
        Set<String> seen = new TreeSet<>();
        for (String line : Files.readAllLines(README)) {
            if (line.startsWith(MADE)) {
                check(hall == null, "the examples make a second object");
                hall = new KeyHall(0);
            } else if (line.startsWith("hall")) {
                Matcher example = EXAMPLE.matcher(line);
                boolean readable = hall != null && example.matches();
                check(readable, "cannot be read: " + line);
                if (readable) {
                    seen.add(example.group(1));
                    runExample(hall, example);
                }
            }
        }
        check(seen.equals(callsOfTheClass()), "the examples show " + seen);
    }

    private static Set<String> callsOfTheClass() {
        Set<String> names = new TreeSet<>();
        for (Method m : KeyHall.class.getDeclaredMethods()) {
            if (Modifier.isPublic(m.getModifiers())) {
                names.add(m.getName());
            }
        }
        return names;
    }

    private static void runExample(KeyHall hall, Matcher example) throws Exception {
        Method call = callNamed(example.group(1));
        String[] texts = example.group(2).isEmpty() ? new String[0] : example.group(2).split(", ");
        if (call == null || call.getParameterCount() != texts.length) {
            check(false, "there is no such call: " + example.group());
            return;
        }
        Object[] arguments = new Object[texts.length];
        for (int i = 0; i < texts.length; i++) {
            arguments[i] = argument(texts[i], call.getParameterTypes()[i]);
        }
        String got = call.invoke(hall, arguments).toString();
        check(got.equals(valueOf(example.group(3))), "answered " + got + ": " + example.group());
    }

    private static Method callNamed(String name) {
        for (Method m : KeyHall.class.getDeclaredMethods()) {
            if (Modifier.isPublic(m.getModifiers()) && m.getName().equals(name)) {
                return m;
            }
        }
        return null;
    }

    private static Object argument(String text, Class<?> type) {
        if (type == boolean.class) {
            check(text.equals("true") || text.equals("false"), "not a boolean: " + text);
            return text.equals("true");
        }
        return text.startsWith("'") ? text.charAt(1) : Integer.parseInt(text);
    }

    private static String valueOf(String told) {
        switch (told) {
            case "NOTHING":
                return "4611686018427387904";
            case "REFUSED":
                return "-1";
            case "FULL":
                return "-3";
            default:
                return told;
        }
    }

    private static void constants() throws Exception {
        String text = Files.readString(README).replaceAll("\\s+", " ");
        check(text.contains("`NOTHING` is 2^62, or " + (1L << 62)), "NOTHING is not told");
        check(text.contains("`KeyHall.REFUSED` is " + KeyHall.REFUSED), "REFUSED is not told");
        check(text.contains("`KeyHall.FULL` is " + KeyHall.FULL), "FULL is not told");
    }

    private static void namesOfTests() throws Exception {
        Set<String> told = new TreeSet<>();
        Matcher name = TEST.matcher(Files.readString(README));
        while (name.find()) {
            told.add(name.group(1));
        }
        Set<String> there = new TreeSet<>();
        try (Stream<Path> files = Files.list(TESTS)) {
            files.forEach(file -> there.add(file.getFileName().toString().replace(".java", "")));
        }
        check(told.equals(there), "the tests are " + there + ", told are " + told);
    }
}
