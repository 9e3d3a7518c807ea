import java.lang.reflect.Array;
import java.lang.reflect.Constructor;
import java.lang.reflect.Field;
import java.lang.reflect.Method;
import java.lang.reflect.Modifier;
import java.nio.file.Files;
import java.nio.file.Path;
import java.util.Arrays;
import java.util.IdentityHashMap;
import java.util.Map;
import java.util.Set;
import java.util.TreeSet;
import java.util.regex.Matcher;
import java.util.regex.Pattern;

/** The form of the class: its face, rules of LANGUAGE.md that can be looked up, its room, and that no call throws. */
public final class KeyHallForm {
    private static final String SOURCE = "src/main/java/KeyHall.java";

    private static final Set<String> FACE = new TreeSet<>(Arrays.asList(
        "long add(int, int, int)", "long count(int, int)", "long drop(int, int)", "long total()", "int sweep()",
        "boolean come(int, int)", "boolean leave(int, int)", "long comer(int, boolean)", "int retain()",
        "long rank(int, int, int)", "long near(int, int, boolean, boolean)", "long poll(boolean)",
        "int between(int, int, int, int)", "int sign(int)", "int erase()", "int line(int)", "long read(int)",
        "int next()", "int letter(int)", "int forget()", "int mark(int, int)", "int around(int, int)", "int step()",
        "long put(int, int, int)", "long get(int, int)", "long end(int)", "int cut(int, int)", "int size(int)"));

    private static final Set<String> LIBRARY = Set.of("System.arraycopy", "Math.max", "Math.min");

    private static final int LONGEST_METHOD = 60;
    private static final int MOST_CLASSES = 12;
    private static final int MOST_FIELDS = 20;

    private static final int[] ARGUMENTS = {
        Integer.MIN_VALUE, Integer.MIN_VALUE + 1, -2, -1, 0, 1, 2, 11, 12, 97, 110, 122, 511, 512, 1 << 30,
        Integer.MAX_VALUE - 1, Integer.MAX_VALUE
    };

    private static int wrong = 0;

    private static void check(boolean right, String fault) {
        if (!right) {
            wrong++;
            System.out.println(fault);
        }
    }

    public static void main(String[] args) throws Exception {
        face();
        namesOfPrivateMethods();
        staticFieldsAreFinal();
        forbiddenWords();
        namesOfTheLibrary();
        lengthsOfMethods();
        numbersOfClassesAndFields();
        room();
        noCallThrows();
        noKindOfCallThrowsHoweverOften();
        System.out.println(wrong == 0 ? "the form is as due" : wrong + " faults of form");
        if (wrong != 0) {
            System.exit(1);
        }
    }

    private static void face() {
        check(Modifier.isPublic(KeyHall.class.getModifiers()) && Modifier.isFinal(KeyHall.class.getModifiers()),
            "the class is not public and final");
        Set<String> methods = new TreeSet<>();
        for (Method m : KeyHall.class.getDeclaredMethods()) {
            if (!Modifier.isPrivate(m.getModifiers())) {
                methods.add(faceOf(m));
                check(Modifier.isPublic(m.getModifiers()) && !Modifier.isStatic(m.getModifiers()), "not as due: " + m);
            }
        }
        check(methods.equals(FACE), "the methods are " + methods);
        Set<String> fields = new TreeSet<>();
        for (Field f : KeyHall.class.getDeclaredFields()) {
            if (!Modifier.isPrivate(f.getModifiers())) {
                fields.add(f.toString());
            }
        }
        check(fields.equals(new TreeSet<>(Arrays.asList("public static final int KeyHall.REFUSED",
            "public static final int KeyHall.FULL"))), "the fields are " + fields);
        Constructor<?>[] made = KeyHall.class.getDeclaredConstructors();
        check(made.length == 1 && made[0].toString().equals("public KeyHall(int)"),
            "the constructors are " + Arrays.toString(made));
    }

    private static String faceOf(Method m) {
        String types = Arrays.toString(m.getParameterTypes());
        return m.getReturnType() + " " + m.getName() + "(" + types.substring(1, types.length() - 1) + ")";
    }

    private static void namesOfPrivateMethods() {
        Set<String> names = new TreeSet<>();
        for (String method : FACE) {
            names.add(method.substring(method.indexOf(' ') + 1, method.indexOf('(')));
        }
        for (Method m : KeyHall.class.getDeclaredMethods()) {
            check(!Modifier.isPrivate(m.getModifiers()) || !names.contains(m.getName()), "rule 1: " + m);
        }
        for (Class<?> inside : KeyHall.class.getDeclaredClasses()) {
            check(Modifier.isStatic(inside.getModifiers()) && !Modifier.isPublic(inside.getModifiers())
                && !Modifier.isProtected(inside.getModifiers()), "rule 2: " + inside);
            for (Method m : inside.getDeclaredMethods()) {
                check(!names.contains(m.getName()), "rule 1: " + m);
                check(m.getParameterCount() <= 7, "rule 11: " + m);
            }
        }
    }

    private static void staticFieldsAreFinal() {
        for (Field f : KeyHall.class.getDeclaredFields()) {
            check(!Modifier.isStatic(f.getModifiers()) || Modifier.isFinal(f.getModifiers()), "rule 5: " + f);
        }
    }

    private static String codeWithoutComments() throws Exception {
        return Files.readString(Path.of(SOURCE)).replaceAll("(?s)/\\*.*?\\*/", "").replaceAll("//[^\n]*", "");
    }

    private static void forbiddenWords() throws Exception {
        String code = codeWithoutComments();
        Matcher found = Pattern.compile("\\b(throw|throws|try|catch|synchronized|assert|import|package|hashCode"
            + "|toString|equals|Random|nanoTime|currentTimeMillis|Thread|\\w+Exact)\\b|->|::").matcher(code);
        while (found.find()) {
            check(false, "rules 2, 4, 6 and 13: " + found.group());
        }
    }

    private static void namesOfTheLibrary() throws Exception {
        Matcher found = Pattern.compile("\\b[A-Z]\\w*[a-z]\\w*\\.\\w+").matcher(codeWithoutComments());
        while (found.find()) {
            check(LIBRARY.contains(found.group()), "rule 4: " + found.group());
        }
    }

    private static void lengthsOfMethods() throws Exception {
        String head = "^((?: {4}){1,2})(?! |if|for|while|do|switch)([^\n;=]*\\)) \\{\n";
        Matcher found = Pattern.compile("(?m)" + head + "((?s:.*?)\n)?\\1\\}$").matcher(codeWithoutComments());
        int methods = 0;
        while (found.find()) {
            methods++;
            check(found.group().split("\n").length <= LONGEST_METHOD, "rule 11: " + found.group(2) + " is long");
        }
        check(methods > FACE.size(), "rule 11: only " + methods + " methods were found");
    }

    private static void numbersOfClassesAndFields() {
        Class<?>[] inside = KeyHall.class.getDeclaredClasses();
        check(inside.length + 1 <= MOST_CLASSES, "rule 11: there are " + inside.length + " classes inside");
        checkFields(KeyHall.class);
        for (Class<?> c : inside) {
            checkFields(c);
        }
    }

    private static void checkFields(Class<?> holder) {
        int fields = 0;
        for (Field f : holder.getDeclaredFields()) {
            if (!Modifier.isStatic(f.getModifiers())) {
                fields++;
            }
        }
        check(fields <= MOST_FIELDS, "rule 11: " + holder + " has " + fields + " fields");
    }

    private static void room() throws Exception {
        Map<Object, Long> seen = new IdentityHashMap<>();
        KeyHall x = new KeyHall(0);
        long fresh = elementsOf(x, seen);
        int objects = seen.size();
        check(objects * 512L <= 600_000 && fresh * 512 <= 7_300_000,
            "512 objects take " + objects * 512L + " objects and " + fresh * 512 + " elements");
        for (int call = 0; call < 512; call++) {
            anyCall(x, call % 28, call, call * 7, call * 31, call);
        }
        seen.clear();
        check(elementsOf(x, seen) == fresh, "calls make an object larger");
        check(seen.size() == objects, "calls make objects that are kept");
    }

    private static long elementsOf(Object o, Map<Object, Long> seen) throws Exception {
        if (o == null || seen.put(o, 0L) != null) {
            return 0;
        }
        if (o.getClass().isArray()) {
            return Array.getLength(o);
        }
        long elements = 0;
        for (Field f : o.getClass().getDeclaredFields()) {
            if (!Modifier.isStatic(f.getModifiers())) {
                f.setAccessible(true);
                elements += 1 + (f.getType().isPrimitive() ? 0 : elementsOf(f.get(o), seen));
            }
        }
        return elements;
    }

    // Runs go on far beyond 512 calls: what they answer is free then, but no call may throw.
    private static void noCallThrows() {
        for (int run = 0; run < 40; run++) {
            KeyHall x = new KeyHall(ARGUMENTS[run % ARGUMENTS.length]);
            long turn = run * 7919L + 1;
            for (int call = 0; call < 5000; call++) {
                turn = turn * 6364136223846793005L + 1442695040888963407L;
                int kind = (int) ((turn >>> 40) % 28);
                boolean edge = run % 2 == 0;
                anyCall(x, kind, argument(turn >>> 8, edge), argument(turn >>> 16, edge), argument(turn >>> 24, edge),
                    argument(turn >>> 32, edge));
            }
        }
    }

    private static int argument(long turn, boolean edge) {
        return edge ? ARGUMENTS[(int) ((turn & 0xffff) % ARGUMENTS.length)] : (int) (turn & 0x7f) + 32;
    }

    private static void noKindOfCallThrowsHoweverOften() {
        for (int kind = 0; kind < 28; kind++) {
            KeyHall x = new KeyHall(0);
            for (int call = 0; call < 3000; call++) {
                if (kind >= 13 && kind < 20) {
                    x.sign('a' + call % 26);
                    x.sign('a' + call / 26 % 26);
                }
                anyCall(x, kind, call, call * 3, call, call);
            }
            for (int other = 0; other < 28; other++) {
                anyCall(x, other, 5, 15, 2999, 9000);
            }
        }
    }

    private static void anyCall(KeyHall x, int kind, int a, int b, int c, int d) {
        try {
            if (kind < 13) {
                pairCall(x, kind, a, b, c, d);
            } else {
                otherCall(x, kind, a, b, c);
            }
        } catch (RuntimeException e) {
            String with = a + ", " + b + ", " + c + ", " + d;
            check(false, "rule 7: call of kind " + kind + " with " + with + " threw " + e);
        }
    }

    private static void pairCall(KeyHall x, int kind, int a, int b, int c, int d) {
        switch (kind) {
            case 0 -> x.add(a, b, c);
            case 1 -> x.count(a, b);
            case 2 -> x.drop(a, b);
            case 3 -> x.total();
            case 4 -> x.sweep();
            case 5 -> x.come(a, b);
            case 6 -> x.leave(a, b);
            case 7 -> x.comer(a, b > 0);
            case 8 -> x.retain();
            case 9 -> x.rank(a, b, c);
            case 10 -> x.near(a, b, c > 0, d > 0);
            case 11 -> x.poll(a > 0);
            default -> x.between(a, b, c, d);
        }
    }

    private static void otherCall(KeyHall x, int kind, int a, int b, int c) {
        switch (kind) {
            case 13 -> x.sign(a);
            case 14 -> x.erase();
            case 15 -> x.line(a);
            case 16 -> x.read(a);
            case 17 -> x.next();
            case 18 -> x.letter(a);
            case 19 -> x.forget();
            case 20 -> x.mark(a, b);
            case 21 -> x.around(a, b);
            case 22 -> x.step();
            case 23 -> x.put(a, b, c);
            case 24 -> x.get(a, b);
            case 25 -> x.end(a);
            case 26 -> x.cut(a, b);
            default -> x.size(a);
        }
    }
}
