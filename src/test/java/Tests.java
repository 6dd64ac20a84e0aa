import java.lang.reflect.InvocationTargetException;
import java.lang.reflect.Method;
import java.lang.reflect.Modifier;
import java.util.ArrayList;
import java.util.Arrays;
import java.util.Comparator;
import java.util.List;

/**
 * What the tests of the promises stand on. A test is a static method without parameters that is not private;
 * each makes objects of its own, and uses none for more than the 512 calls that the document allows.
 */
abstract class Tests {
    // The document's numbers and not the class's constants, so that a constant that is another one is found.
    static final int BAD = -1;
    static final int NO = -2;
    static final int FULL = -3;

    static final int LEAST_INT = Integer.MIN_VALUE;
    static final int GREATEST_INT = Integer.MAX_VALUE;

    /** In each one item lies outside its range: beside it or far away. */
    static final int[][] NO_TRIPLES = {
        {-1, 0, 0}, {16, 0, 0}, {LEAST_INT, 0, 0}, {GREATEST_INT, 0, 0},
        {0, -1, 0}, {0, 8, 0}, {0, LEAST_INT, 0}, {0, GREATEST_INT, 0},
        {0, 0, -1}, {0, 0, 16}, {0, 0, LEAST_INT}, {0, 0, GREATEST_INT},
    };

    private static String test = "";
    private static int checks;
    private static int wrong;

    static void run(Class<?> tests) {
        List<Method> methods = new ArrayList<>();
        for (Method method : tests.getDeclaredMethods()) {
            int modifiers = method.getModifiers();
            boolean open = Modifier.isStatic(modifiers) && !Modifier.isPrivate(modifiers) && !method.isSynthetic();
            if (open && method.getParameterCount() == 0) {
                methods.add(method);
            }
        }
        methods.sort(Comparator.comparing(Method::getName));
        for (Method method : methods) {
            runOne(method);
        }
        System.out.println(tests.getName() + ": " + methods.size() + " tests, " + wrong + " answers not as due");
        if (wrong != 0 || methods.isEmpty()) {
            System.exit(1);
        }
    }

    private static void runOne(Method method) {
        test = method.getName();
        checks = 0;
        try {
            method.invoke(null);
        } catch (InvocationTargetException thrown) {
            tell("threw " + thrown.getCause());
        } catch (IllegalAccessException refused) {
            tell("cannot be called");
        }
        if (checks == 0) {
            tell("checks nothing");
        }
    }

    private static void tell(String what) {
        wrong++;
        System.out.println(test + ": " + what);
    }

    static void due(String what, int got, int want) {
        checks++;
        if (got != want) {
            tell(what + " answered " + got + ", due is " + want);
        }
    }

    static void due(String what, int[] got, int... want) {
        checks++;
        if (!Arrays.equals(got, want)) {
            tell(what + " answered " + Arrays.toString(got) + ", due is " + Arrays.toString(want));
        }
    }

    static void holds(String what, boolean is) {
        checks++;
        if (!is) {
            tell(what + " does not hold");
        }
    }

    static int[] got(int... answers) {
        return answers;
    }

    /** A new object with that many numbers, of which the latest is the one asked for. */
    static ContinuousRows at(int latest, int numbers) {
        ContinuousRows x = new ContinuousRows(numbers - 1);
        stepTo(x, latest);
        return x;
    }

    static void stepTo(ContinuousRows x, int latest) {
        int steps = latest - x.latest();
        for (int i = 0; i < steps; i++) {
            x.step();
        }
    }

    /** A question more, with the patterns whose items are told: its number. */
    static int ask(ContinuousRows x, int window, int... items) {
        int question = x.question(window);
        for (int i = 0; i + 2 < items.length; i += 3) {
            x.pattern(question, items[i], items[i + 1], items[i + 2]);
        }
        return question;
    }

    static int key(int first, int second, int third, int fourth) {
        return ((first * 16 + second) * 16 + third) * 16 + fourth;
    }

    /** All keys that row answers, up to the first answer that is none. */
    static int[] keys(ContinuousRows x, int question, int number, int which) {
        int[] keys = new int[0];
        int key = x.row(question, number, which, 0);
        while (key >= 0 && keys.length < 100) {
            keys = Arrays.copyOf(keys, keys.length + 1);
            keys[keys.length - 1] = key;
            key = x.row(question, number, which, keys.length);
        }
        due("row behind the last one", key, NO);
        return keys;
    }

    /** Says so many things at the latest number, all of the triple (15, 7, 15). */
    static void say(ContinuousRows x, int things) {
        for (int i = 0; i < things; i++) {
            holds("thing " + i + " is said", x.change(15, 7, 15, i % 2 == 0) == 1);
        }
    }
}
