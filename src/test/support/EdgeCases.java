import java.lang.reflect.InvocationTargetException;
import java.lang.reflect.Method;
import java.lang.reflect.Modifier;
import java.util.ArrayList;
import java.util.Comparator;
import java.util.List;
import java.util.Set;
import java.util.TreeSet;
import java.util.regex.Matcher;
import java.util.regex.Pattern;

/**
 * Runs the cases of a class: each is for one sentence of the document that names a boundary case, and bears the
 * promise's number (or 'calls', 'face' or 'terms' for the sections before the promises).
 */
abstract class EdgeCases {
    static final long NOTHING = 4611686018427387904L;
    static final int REFUSED = -1;
    static final int FULL = -3;
    static final int MIN = Integer.MIN_VALUE;
    static final int MAX = Integer.MAX_VALUE;
    static final int[] EDGES = {MIN, MIN + 1, -1, 0, 1, 1 << 30, MAX - 1, MAX};

    private static final Pattern NAME = Pattern.compile("(promise(\\d+)|calls|face|terms)[A-Z]\\w*");

    private static String running = "";
    private static int wrong = 0;

    static void run(Class<?> holder, int firstPromise, int lastPromise) {
        List<Method> cases = casesOf(holder);
        for (Method m : cases) {
            runCase(m);
        }
        running = holder.getName();
        checkNames(cases, firstPromise, lastPromise);
        System.out.println(wrong == 0 ? cases.size() + " cases are as due" : wrong + " answers are not as due");
        if (wrong != 0) {
            System.exit(1);
        }
    }

    // Each method that takes and answers nothing is a case, so that none can be written and then not run.
    private static List<Method> casesOf(Class<?> holder) {
        List<Method> cases = new ArrayList<>();
        for (Method m : holder.getDeclaredMethods()) {
            if (Modifier.isStatic(m.getModifiers()) && m.getParameterCount() == 0 && m.getReturnType() == void.class) {
                cases.add(m);
            }
        }
        cases.sort(Comparator.comparing(Method::getName));
        return cases;
    }

    private static void runCase(Method m) {
        running = m.getName();
        try {
            m.invoke(null);
        } catch (InvocationTargetException e) {
            fault("threw " + e.getCause());
        } catch (IllegalAccessException e) {
            fault("could not be run");
        }
    }

    private static void checkNames(List<Method> cases, int firstPromise, int lastPromise) {
        Set<Integer> seen = new TreeSet<>();
        for (Method m : cases) {
            Matcher name = NAME.matcher(m.getName());
            if (!name.matches()) {
                fault(m.getName() + " tells no promise");
            } else if (name.group(2) != null) {
                seen.add(Integer.valueOf(name.group(2)));
            }
        }
        for (int promise = firstPromise; promise <= lastPromise; promise++) {
            if (!seen.contains(promise)) {
                fault("promise " + promise + " has no case");
            }
        }
    }

    private static void fault(String text) {
        wrong++;
        System.out.println(running + ": " + text);
    }

    static void due(String call, long got, long want) {
        if (got != want) {
            fault(call + " answered " + got + ", due is " + want);
        }
    }

    static void due(String call, boolean got, boolean want) {
        if (got != want) {
            fault(call + " answered " + got + ", due is " + want);
        }
    }

    static KeyHall hall() {
        return new KeyHall(0);
    }

    static void type(KeyHall x, String word) {
        for (int i = 0; i < word.length(); i++) {
            x.sign(word.charAt(i));
        }
    }

    static int lineOf(KeyHall x, String word, int n) {
        type(x, word);
        return x.line(n);
    }

    static long readOf(KeyHall x, String word, int k) {
        type(x, word);
        return x.read(k);
    }

    static int forgetOf(KeyHall x, String word) {
        type(x, word);
        return x.forget();
    }

    static int nextOf(KeyHall x, String word) {
        type(x, word);
        return x.next();
    }

    static void dueTape(String when, KeyHall x, String word) {
        for (int k = 0; k < word.length(); k++) {
            due("letter(" + k + ") " + when, x.letter(k), word.charAt(k));
        }
        due("letter(" + word.length() + ") " + when, x.letter(word.length()), REFUSED);
    }

    /** The number by which near tells a pair. */
    static long told(long a, long b) {
        return a * 2147483648L + b;
    }
}
