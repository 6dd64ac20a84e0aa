import java.lang.reflect.Constructor;
import java.lang.reflect.Field;
import java.lang.reflect.Member;
import java.lang.reflect.Method;
import java.lang.reflect.Modifier;
import java.util.ArrayList;
import java.util.List;
import java.util.TreeSet;

/** "The public face", and what "What it is" says of an object's calls. */
public final class FaceTest extends Tests {
    public static void main(String[] args) {
        run(FaceTest.class);
    }

    static void faceConstants() {
        due("BAD, NO, FULL", got(ContinuousRows.BAD, ContinuousRows.NO, ContinuousRows.FULL), -1, -2, -3);
    }

    static void faceClassIsPublicAndFinal() {
        int modifiers = ContinuousRows.class.getModifiers();
        holds("public and final", Modifier.isPublic(modifiers) && Modifier.isFinal(modifiers));
    }

    static void faceHasTheDocumentsMembersAndNoOthers() {
        TreeSet<String> open = new TreeSet<>();
        List<Member> members = new ArrayList<>(List.of(ContinuousRows.class.getDeclaredFields()));
        members.addAll(List.of(ContinuousRows.class.getDeclaredConstructors()));
        members.addAll(List.of(ContinuousRows.class.getDeclaredMethods()));
        for (Member member : members) {
            if (!Modifier.isPrivate(member.getModifiers()) && !member.isSynthetic()) {
                open.add(Modifier.toString(member.getModifiers()) + " " + told(member));
            }
        }
        holds("the face " + open, open.equals(new TreeSet<>(List.of(
                "public static final int BAD", "public static final int NO", "public static final int FULL",
                "public new(int)",
                "public int change(int, int, int, boolean)", "public int step()", "public int question(int)",
                "public int pattern(int, int, int, int)", "public int window(int, int)", "public int rows(int, int)",
                "public int changed(int, int, boolean)", "public int row(int, int, int, int)",
                "public int aggregate(int, int, int, int)", "public int late(int, int, int, int, boolean)",
                "public int still(int)", "public int there(int, int, int, int)",
                "public int age(int, int, int, int)", "public int latest()"))));
    }

    static void faceObjectsKnowNothingOfEachOther() {
        ContinuousRows x = at(3, 10);
        x.question(7);
        x.change(1, 1, 1, true);
        ContinuousRows y = new ContinuousRows(9);
        due("a second object", got(y.latest(), y.still(0), y.there(0, 1, 1, 1)), 0, BAD, 0);
        y.question(9);
        due("the first object", got(x.latest(), x.window(0, 7), x.there(3, 1, 1, 1)), 3, 7, 1);
    }

    static void faceThe512thCallIsAnsweredToo() {
        ContinuousRows x = new ContinuousRows(61);
        x.question(0);
        x.pattern(0, -1, 7, 15);
        for (int i = 0; i < 61; i++) {
            x.step();
        }
        for (int i = 0; i < 399; i++) {
            x.change(15, 7, 15, i % 2 == 0);
        }
        for (int call = 463; call <= 511; call++) {
            due("call " + call, x.rows(0, 61), 1);
        }
        due("call 512", x.late(0, 15, 7, 15, true), 61);
    }

    private static String told(Member member) {
        if (member instanceof Field field) {
            return field.getType() + " " + field.getName();
        }
        if (member instanceof Constructor<?> constructor) {
            return "new" + told(constructor.getParameterTypes());
        }
        Method method = (Method) member;
        return method.getReturnType() + " " + method.getName() + told(method.getParameterTypes());
    }

    private static String told(Class<?>[] types) {
        StringBuilder text = new StringBuilder();
        for (Class<?> type : types) {
            text.append(text.length() == 0 ? "" : ", ").append(type);
        }
        return "(" + text + ")";
    }
}
