import java.io.IOException;
import java.lang.management.ManagementFactory;
import java.lang.reflect.Field;
import java.lang.reflect.Method;
import java.lang.reflect.Modifier;
import java.nio.file.Files;
import java.nio.file.Path;
import java.util.HashSet;
import java.util.List;
import java.util.Set;
import java.util.regex.Pattern;

/** What can be told by a machine of ../shared/LANGUAGE.md's rules, and of the room that a run may take. */
public final class LanguageTest extends Tests {
    public static void main(String[] args) {
        run(LanguageTest.class);
    }

    /** The source without its comments, in which any word may stand. */
    private static String code() throws IOException {
        String source = Files.readString(Path.of("src/main/java/ContinuousRows.java"));
        return source.replaceAll("(?s)/\\*.*?\\*/", "").replaceAll("//[^\n]*", "");
    }

    static void rule1NoPrivateMethodBearsThePublicNames() {
        Set<String> open = new HashSet<>();
        for (Method method : ContinuousRows.class.getDeclaredMethods()) {
            if (Modifier.isPublic(method.getModifiers())) {
                open.add(method.getName());
            }
        }
        for (Method method : ContinuousRows.class.getDeclaredMethods()) {
            holds("the name of " + method, Modifier.isPublic(method.getModifiers()) || !open.contains(method.getName()));
        }
    }

    static void rule2ClassesInsideAreStaticAndClosed() {
        for (Class<?> inside : ContinuousRows.class.getDeclaredClasses()) {
            int modifiers = inside.getModifiers();
            holds(inside + " is static", Modifier.isStatic(modifiers));
            holds(inside + " is not public", !Modifier.isPublic(modifiers) && !Modifier.isProtected(modifiers));
        }
    }

    static void rule4OnlyTheLibraryThatIsListed() throws IOException {
        String code = code();
        List<String> imports = List.of("java.util.Arrays", "java.util.ArrayList", "java.util.List");
        for (String line : code.split("\n")) {
            if (line.startsWith("import ")) {
                holds(line, imports.contains(line.substring(7, line.length() - 1)));
            }
        }
        holds("no package line", !Pattern.compile("(?m)^\\s*package\\s").matcher(code).find());
        holds("no function that throws", !Pattern.compile("\\w+Exact\\b").matcher(code).find());
    }

    static void rule5StaticFieldsAreFinal() {
        for (Class<?> inside : ContinuousRows.class.getDeclaredClasses()) {
            checkStaticFields(inside);
        }
        checkStaticFields(ContinuousRows.class);
    }

    private static void checkStaticFields(Class<?> owner) {
        for (Field field : owner.getDeclaredFields()) {
            int modifiers = field.getModifiers();
            holds(field + " is final if it is static", !Modifier.isStatic(modifiers) || Modifier.isFinal(modifiers));
        }
    }

    static void rule6NoWordThatIsRuledOut() throws IOException {
        String code = code();
        for (String word : List.of("throw", "throws", "try", "catch", "finally", "synchronized", "assert")) {
            holds("no " + word, !Pattern.compile("\\b" + word + "\\b").matcher(code).find());
        }
        holds("no lambda, no method reference", !code.contains("->") && !code.contains("::"));
    }

    static void rule11AtMostSevenParametersAndTwelveClasses() {
        holds("twelve classes", ContinuousRows.class.getDeclaredClasses().length < 12);
        for (Class<?> inside : ContinuousRows.class.getDeclaredClasses()) {
            for (Method method : inside.getDeclaredMethods()) {
                holds("the parameters of " + method, method.getParameterCount() <= 7);
            }
        }
    }

    /** Counted in bytes: far above what the constructor takes, far below one new row set for each call. */
    static void theRoomOfARunIsMadeOnce() {
        var threads = (com.sun.management.ThreadMXBean) ManagementFactory.getThreadMXBean();
        long id = Thread.currentThread().getId();
        dearRun();
        long before = threads.getThreadAllocatedBytes(id);
        int rows = dearRun();
        long bytes = threads.getThreadAllocatedBytes(id) - before;
        due("the run's rows", rows, 65536);
        holds("a run of 512 calls in 200,000 bytes (it took " + bytes + ")", bytes < 200_000);
    }

    private static int dearRun() {
        ContinuousRows x = at(3, 5);
        ask(x, 0, -1, 0, -2, -3, 0, -4);
        for (int i = 0; i < 256; i++) {
            x.late(0, i / 16, 0, i % 16, true);
        }
        for (int i = 0; i < 100; i++) {
            x.changed(0, 3, false);
            x.still(0);
        }
        return x.rows(0, 3);
    }
}
