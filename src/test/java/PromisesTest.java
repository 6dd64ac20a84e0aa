import java.lang.reflect.Member;
import java.lang.reflect.Modifier;
import java.util.ArrayList;
import java.util.List;
import java.util.TreeSet;

/** Each promise by itself: ordinary inputs, the edges that the document names, and wrong inputs. */
public final class PromisesTest {
    private static final int BAD = ContinuousRows.BAD;
    private static final int NO = ContinuousRows.NO;
    private static final int FULL = ContinuousRows.FULL;
    private static final int[] NO_TRIPLES = {
        -1, 0, 0, 16, 0, 0, 0, -1, 0, 0, 8, 0, 0, 0, -1, 0, 0, 16,
        Integer.MIN_VALUE, 0, 0, 0, Integer.MAX_VALUE, 0, 0, 0, Integer.MIN_VALUE
    };

    private static int wrong = 0;

    private static void due(String what, Object got, Object want) {
        if (!got.equals(want)) {
            wrong++;
            System.out.println(what + ": answered " + got + ", due is " + want);
        }
    }

    public static void main(String[] args) {
        face();
        newObject();
        change();
        changeFull();
        step();
        question();
        pattern();
        patternItems();
        window();
        rows();
        rowsOfSpecialPatterns();
        changed();
        row();
        aggregate();
        late();
        lateCountsNumbersOnce();
        lateWrong();
        still();
        there();
        age();
        latest();
        mostRows();
        System.out.println(wrong == 0 ? "all answers are as due" : wrong + " answers are not as due");
        if (wrong != 0) {
            System.exit(1);
        }
    }

    private static ContinuousRows stepped(int numbers, int steps) {
        ContinuousRows x = new ContinuousRows(numbers);
        for (int i = 0; i < steps; i++) {
            x.step();
        }
        return x;
    }

    private static int asked(ContinuousRows x, int window, int... items) {
        int question = x.question(window);
        for (int i = 0; i < items.length; i += 3) {
            x.pattern(question, items[i], items[i + 1], items[i + 2]);
        }
        return question;
    }

    private static List<Integer> keys(ContinuousRows x, int question, int number, int which) {
        List<Integer> keys = new ArrayList<>();
        int key = x.row(question, number, which, 0);
        while (key >= 0) {
            keys.add(key);
            key = x.row(question, number, which, keys.size());
        }
        due("the end of the rows", key, NO);
        return keys;
    }

    private static void face() {
        Class<?> face = ContinuousRows.class;
        due("public and final", Modifier.isPublic(face.getModifiers()) && Modifier.isFinal(face.getModifiers()), true);
        TreeSet<String> open = new TreeSet<>();
        List<Member> members = new ArrayList<>(List.of(face.getDeclaredFields()));
        members.addAll(List.of(face.getDeclaredConstructors()));
        members.addAll(List.of(face.getDeclaredMethods()));
        for (Member member : members) {
            if (!Modifier.isPrivate(member.getModifiers()) && !member.isSynthetic()) {
                open.add(Modifier.toString(member.getModifiers()) + " " + member.getName());
            }
        }
        due("the face", open, new TreeSet<>(List.of(
                "public static final BAD", "public static final NO", "public static final FULL",
                "public ContinuousRows", "public change", "public step", "public question", "public pattern",
                "public window", "public rows", "public changed", "public row", "public aggregate", "public late",
                "public still", "public there", "public age", "public latest")));
        due("BAD, NO, FULL", List.of(BAD, NO, FULL), List.of(-1, -2, -3));
    }

    private static void newObject() {
        int[] given = {0, 1, 61, 62, 63, 124, 1000, -1, -61, -62, -63, Integer.MAX_VALUE, Integer.MIN_VALUE};
        int[] numbers = {1, 2, 62, 1, 2, 1, 9, 62, 2, 1, 62, 2, 61};
        for (int i = 0; i < given.length; i++) {
            ContinuousRows x = new ContinuousRows(given[i]);
            due("latest of a new object", x.latest(), 0);
            for (int step = 1; step < numbers[i]; step++) {
                due("1: step of ContinuousRows(" + given[i] + ")", x.step(), step);
            }
            due("1: last step of ContinuousRows(" + given[i] + ")", x.step(), FULL);
        }
        ContinuousRows x = new ContinuousRows(5);
        for (int triple = 0; triple < 2048; triple++) {
            due("1: there", x.there(0, triple / 128, triple / 16 % 8, triple % 16), 0);
        }
        due("1: no question", List.of(x.rows(0, 0), x.still(0), x.window(0, 0)), List.of(BAD, BAD, BAD));
    }

    private static void change() {
        ContinuousRows x = new ContinuousRows(5);
        due("2: goes, was not there", x.change(1, 2, 3, false), 0);
        due("2: comes", x.change(1, 2, 3, true), 1);
        due("2: comes again", x.change(1, 2, 3, true), 0);
        due("2: another comes", x.change(3, 2, 1, true), 1);
        due("2: goes", x.change(1, 2, 3, false), 1);
        due("2: goes again", x.change(1, 2, 3, false), 0);
        due("2: comes after going", x.change(1, 2, 3, true), 1);
        due("2: there", x.there(0, 1, 2, 3), 1);
        x.step();
        due("2: comes at the next number", x.change(1, 2, 3, true), 0);
        due("2: what was said all the same", x.age(1, 1, 2, 3), 0);
        due("2: goes at the next number", x.change(3, 2, 1, false), 1);
        due("2: the number before keeps it", x.there(0, 3, 2, 1), 1);
        due("2: edges", x.change(15, 7, 15, true), 1);
        due("2: edges", x.change(0, 0, 0, true), 1);
        for (int i = 0; i < NO_TRIPLES.length; i += 3) {
            due("2: no triple comes", x.change(NO_TRIPLES[i], NO_TRIPLES[i + 1], NO_TRIPLES[i + 2], true), BAD);
            due("2: no triple goes", x.change(NO_TRIPLES[i], NO_TRIPLES[i + 1], NO_TRIPLES[i + 2], false), BAD);
        }
    }

    private static void changeFull() {
        ContinuousRows x = stepped(5, 1);
        for (int i = 0; i < 400; i++) {
            int got = i % 2 == 0 ? x.change(i / 128, 0, i / 8 % 16, true) : x.late(0, i / 128, 1, 0, true);
            due("2: before it is full", got >= 0, true);
        }
        due("2: full", x.change(9, 0, 0, true), FULL);
        due("2: full, nothing said", x.there(1, 9, 0, 0), 0);
        due("2: BAD goes before FULL", x.change(16, 0, 0, true), BAD);
        due("11: full", x.late(0, 9, 0, 0, true), FULL);
        due("11: BAD goes before FULL", x.late(1, 9, 0, 0, true), BAD);
        ContinuousRows y = new ContinuousRows(5);
        for (int i = 0; i < 400; i++) {
            due("2: said, but there already", y.change(1, 1, 1, true), i == 0 ? 1 : 0);
        }
        due("2: full of the same thing", y.change(1, 1, 1, true), FULL);
        ContinuousRows z = new ContinuousRows(5);
        for (int i = 0; i < 100; i++) {
            z.change(1, 1, 16, true);
        }
        for (int i = 0; i < 400; i++) {
            due("2: BAD is not said", z.change(1, 1, 1, i % 2 == 0), 1);
        }
        due("2: full of both", z.change(1, 1, 1, true), FULL);
    }

    private static void step() {
        ContinuousRows x = new ContinuousRows(2);
        x.change(1, 1, 1, true);
        due("3: first step", x.step(), 1);
        due("3: it is there still", x.there(1, 1, 1, 1), 1);
        due("3: second step", x.step(), 2);
        due("3: no third number", x.step(), FULL);
        due("3: and none later", x.step(), FULL);
        due("3: latest", x.latest(), 2);
        due("3: one number only", new ContinuousRows(0).step(), FULL);
    }

    private static void question() {
        ContinuousRows x = new ContinuousRows(2);
        int[] bad = {-1, 63, Integer.MIN_VALUE, Integer.MAX_VALUE};
        for (int window : bad) {
            due("4: another window", x.question(window), BAD);
        }
        for (int i = 0; i < 12; i++) {
            due("4: question", x.question(i % 2 * 62), i);
            due("4: the one row 0", keys(x, i, 0, 0), List.of(0));
        }
        due("4: full", x.question(0), FULL);
        due("4: BAD goes before FULL", x.question(63), BAD);
        due("4: the windows are theirs", List.of(x.window(0, 1), x.window(11, 1)), List.of(0, 62));
    }

    private static void pattern() {
        ContinuousRows x = new ContinuousRows(2);
        due("5: no question", x.pattern(0, 0, 0, 0), BAD);
        x.question(0);
        due("5: no question -1", x.pattern(-1, 0, 0, 0), BAD);
        due("5: no question 1", x.pattern(1, 0, 0, 0), BAD);
        due("5: no such question", x.pattern(Integer.MAX_VALUE, 0, 0, 0), BAD);
        due("5: first", x.pattern(0, -1, -2, -3), 1);
        x.question(0);
        due("5: first of another", x.pattern(1, -4, 7, 15), 1);
        due("5: second", x.pattern(0, 15, -4, 15), 2);
        due("5: third", x.pattern(0, 0, 0, 0), 3);
        due("5: full", x.pattern(0, 0, 0, 0), FULL);
        due("5: BAD goes before FULL", x.pattern(0, 16, 0, 0), BAD);
        due("5: second of another", x.pattern(1, 0, 0, -4), 2);
    }

    private static void patternItems() {
        ContinuousRows x = new ContinuousRows(2);
        x.question(0);
        int[] bad = {-5, 16, Integer.MIN_VALUE, Integer.MAX_VALUE};
        for (int item : bad) {
            due("5: no s", x.pattern(0, item, 0, 0), BAD);
            due("5: no p", x.pattern(0, 0, item, 0), BAD);
            due("5: no o", x.pattern(0, 0, 0, item), BAD);
        }
        due("5: p beyond 7", x.pattern(0, 0, 8, 0), BAD);
        due("5: a bad pattern leaves nothing", keys(x, 0, 0, 0), List.of(0));
        due("5: the variables at the edge", x.pattern(0, -4, -4, -4), 1);
        due("5: the values at the edge", x.pattern(0, 15, 7, 15), 2);
    }

    private static void window() {
        ContinuousRows x = new ContinuousRows(9);
        asked(x, 2, -1, 0, 0);
        x.change(5, 0, 0, true);
        for (int i = 0; i < 4; i++) {
            x.step();
        }
        due("6: seen through 2", List.of(x.rows(0, 1), x.rows(0, 2)), List.of(1, 0));
        due("6: the old one", x.window(0, 4), 2);
        due("6: seen through 4", List.of(x.rows(0, 3), x.rows(0, 4)), List.of(1, 0));
        due("6: the old one", x.window(0, 1), 4);
        due("6: seen through 1", List.of(x.rows(0, 0), x.rows(0, 1)), List.of(1, 0));
        due("6: the same once more", x.window(0, 1), 1);
        due("6: the old one", x.window(0, 0), 1);
        due("6: seen without a window", List.of(x.rows(0, 0), x.rows(0, 4)), List.of(1, 1));
        due("6: the old one", x.window(0, 62), 0);
        due("6: no window", List.of(x.window(0, -1), x.window(0, 63)), List.of(BAD, BAD));
        due("6: no question", List.of(x.window(1, 0), x.window(-1, 0)), List.of(BAD, BAD));
        due("6: a bad one leaves it", x.window(0, 3), 62);
    }

    private static void rows() {
        ContinuousRows x = new ContinuousRows(9);
        x.change(1, 0, 2, true);
        x.change(2, 0, 3, true);
        x.step();
        x.change(2, 0, 4, true);
        x.change(1, 0, 2, true);
        x.step();
        x.change(2, 0, 3, false);
        int chain = asked(x, 0, -1, 0, -2, -2, 0, -3);
        due("7: a chain", List.of(x.rows(chain, 0), x.rows(chain, 1), x.rows(chain, 2)), List.of(1, 2, 1));
        int narrow = asked(x, 2, -1, 0, -2);
        due("7: a window", List.of(x.rows(narrow, 0), x.rows(narrow, 1), x.rows(narrow, 2)), List.of(2, 3, 2));
        x.step();
        due("7: a triple that is too old", x.rows(narrow, 3), 0);
        due("7: no number", List.of(x.rows(0, -1), x.rows(0, 4), x.rows(0, Integer.MAX_VALUE)), List.of(BAD, BAD, BAD));
        due("7: no question", List.of(x.rows(2, 0), x.rows(-1, 0), x.rows(12, 0)), List.of(BAD, BAD, BAD));
    }

    private static void rowsOfSpecialPatterns() {
        ContinuousRows x = new ContinuousRows(0);
        x.change(3, 3, 3, true);
        x.change(3, 5, 3, true);
        x.change(3, 3, 9, true);
        x.change(9, 3, 3, true);
        x.change(15, 7, 14, true);
        due("7: one variable three times", keys(x, asked(x, 0, -2, -2, -2), 0, 0), List.of(3 * 256));
        due("7: s is o", keys(x, asked(x, 0, -1, -4, -1), 0, 0), List.of(3 * 4096 + 3, 3 * 4096 + 5));
        due("7: s is p", keys(x, asked(x, 0, -3, -3, -4), 0, 0), List.of(3 * 16 + 3, 3 * 16 + 9));
        due("7: p is o", keys(x, asked(x, 0, -4, -1, -1), 0, 0), List.of(3 * 4096 + 3, 3 * 4096 + 9));
        due("7: no variable, seen", keys(x, asked(x, 0, 3, 5, 3), 0, 0), List.of(0));
        due("7: no variable, not seen", keys(x, asked(x, 0, 3, 5, 4), 0, 0), List.of());
        due("7: a pattern twice", keys(x, asked(x, 0, -1, 7, -4, -1, 7, -4), 0, 0), List.of(15 * 4096 + 14));
        due("7: a p that is an s elsewhere", keys(x, asked(x, 0, -1, 5, 3, 9, -1, -2), 0, 0),
                List.of(3 * 4096 + 3 * 256));
        due("7: an o that is no p", keys(x, asked(x, 0, -1, 3, -2, 3, -2, -3), 0, 0),
                List.of(3 * 4096 + 3 * 256 + 3 * 16, 3 * 4096 + 3 * 256 + 9 * 16,
                        9 * 4096 + 3 * 256 + 3 * 16, 9 * 4096 + 3 * 256 + 9 * 16));
        due("7: one pattern is not seen", keys(x, asked(x, 0, -1, -2, -3, 0, 0, 0), 0, 0), List.of());
    }

    private static ContinuousRows comingAndGoing() {
        ContinuousRows x = new ContinuousRows(9);
        asked(x, 0, -4, 1, -1);
        x.change(1, 1, 1, true);
        x.change(2, 1, 1, true);
        x.change(1, 1, 2, true);
        x.step();
        x.change(1, 1, 1, false);
        x.change(2, 1, 1, false);
        x.change(4, 1, 1, true);
        x.change(5, 1, 1, true);
        x.change(5, 1, 1, false);
        x.step();
        x.change(1, 1, 2, false);
        x.change(1, 1, 2, true);
        return x;
    }

    private static void changed() {
        ContinuousRows x = comingAndGoing();
        due("8: came with 0", x.changed(0, 0, true), 3);
        due("8: went with 0", x.changed(0, 0, false), 0);
        due("8: came with 1", x.changed(0, 1, true), 1);
        due("8: went with 1", x.changed(0, 1, false), 2);
        due("8: went and came with 2", List.of(x.changed(0, 2, true), x.changed(0, 2, false)), List.of(0, 0));
        int empty = x.question(0);
        due("8: came without patterns", List.of(x.changed(empty, 0, true), x.changed(empty, 1, true)), List.of(1, 0));
        due("8: went without patterns", List.of(x.changed(empty, 0, false), x.changed(empty, 1, false)), List.of(0, 0));
        due("8: came with 0 whatever was asked before", List.of(x.rows(0, 1), x.changed(0, 1, false),
                x.changed(0, 0, true), x.changed(0, 0, false)), List.of(2, 2, 3, 0));
        due("8: no number", List.of(x.changed(0, 3, true), x.changed(0, -1, false)), List.of(BAD, BAD));
        due("8: no question", List.of(x.changed(2, 0, true), x.changed(-1, 0, false)), List.of(BAD, BAD));
    }

    private static void row() {
        ContinuousRows x = comingAndGoing();
        due("9: has at 0", keys(x, 0, 0, 0), List.of(4097, 4098, 8193));
        due("9: came with 0", keys(x, 0, 0, 1), List.of(4097, 4098, 8193));
        due("9: went with 0", keys(x, 0, 0, 2), List.of());
        due("9: has at 1", keys(x, 0, 1, 0), List.of(4100, 8193));
        due("9: came with 1", keys(x, 0, 1, 1), List.of(4100));
        due("9: went with 1", keys(x, 0, 1, 2), List.of(4097, 4098));
        due("9: none such", x.row(0, 1, 0, 2), NO);
        due("9: none such", x.row(0, 1, 0, Integer.MAX_VALUE), NO);
        due("9: no row before the first", x.row(0, 1, 0, -1), NO);
        due("9: no row before the first", x.row(0, 1, 2, Integer.MIN_VALUE), NO);
        due("9: no which", List.of(x.row(0, 0, -1, 0), x.row(0, 0, 3, 0)), List.of(BAD, BAD));
        due("9: no number", List.of(x.row(0, -1, 0, 0), x.row(0, 3, 0, 0)), List.of(BAD, BAD));
        due("9: no question", List.of(x.row(-1, 0, 0, 0), x.row(1, 0, 0, 0)), List.of(BAD, BAD));
    }

    private static void aggregate() {
        ContinuousRows x = new ContinuousRows(9);
        asked(x, 0, -1, -2, -4);
        for (int kind = 0; kind <= 2; kind++) {
            due("10: no row, kind " + kind, x.aggregate(0, 0, kind, 4), kind == 0 ? 0 : NO);
        }
        x.step();
        x.change(3, 7, 15, true);
        x.change(3, 7, 4, true);
        x.change(8, 2, 4, true);
        int[][] want = {{14, 3, 8}, {16, 2, 7}, {0, 0, 0}, {23, 4, 15}};
        for (int variable = 1; variable <= 4; variable++) {
            for (int kind = 0; kind <= 2; kind++) {
                due("10: kind " + kind + " of " + variable, x.aggregate(0, 1, kind, variable), want[variable - 1][kind]);
            }
        }
        int joined = asked(x, 0, -3, -1, 4, -3, -2, -4);
        due("10: of all different rows", keys(x, joined, 1, 0).size(), 3);
        due("10: the sum of -3", x.aggregate(joined, 1, 0, 3), 14);
        due("10: at the number before", x.aggregate(0, 0, 2, 1), NO);
        due("10: no kind", List.of(x.aggregate(0, 0, -1, 1), x.aggregate(0, 0, 3, 1)), List.of(BAD, BAD));
        due("10: no variable", List.of(x.aggregate(0, 0, 0, 0), x.aggregate(0, 0, 0, 5), x.aggregate(0, 0, 1, -1)),
                List.of(BAD, BAD, BAD));
        due("10: no number", List.of(x.aggregate(0, -1, 0, 1), x.aggregate(0, 2, 0, 1)), List.of(BAD, BAD));
        due("10: no question", List.of(x.aggregate(-1, 0, 0, 1), x.aggregate(2, 0, 0, 1)), List.of(BAD, BAD));
    }

    private static void late() {
        ContinuousRows x = stepped(9, 5);
        asked(x, 0, -1, 0, -2, -2, 0, -1);
        due("11: it makes no row", x.late(1, 1, 0, 2, true), 0);
        due("11: it makes rows from 3 on", x.late(3, 2, 0, 1, true), 3);
        due("11: the rows", keys(x, 0, 3, 1), List.of(4096 + 512, 8192 + 256));
        due("11: it goes at 4", x.late(4, 1, 0, 2, false), 2);
        due("11: it goes there already", x.late(4, 1, 0, 2, false), 0);
        due("11: behind what was said there", x.late(4, 1, 0, 2, true), 2);
        due("11: behind what was said there", List.of(x.there(4, 1, 0, 2), x.age(5, 1, 0, 2)), List.of(1, 1));
        due("11: goes between", x.late(3, 1, 0, 2, false), 1);
        due("11: until it comes again", List.of(x.rows(0, 2), x.rows(0, 3), x.rows(0, 4)), List.of(0, 0, 2));
        due("11: comes earlier", x.late(0, 2, 0, 1, true), 2);
        due("11: no question asks", x.late(0, 2, 1, 1, true), 0);
    }

    private static void lateCountsNumbersOnce() {
        ContinuousRows x = stepped(9, 6);
        asked(x, 2, 1, 0, -1);
        asked(x, 3, -1, 0, 1);
        asked(x, 2, 1, 0, -1);
        due("11: a number counts once", x.late(1, 1, 0, 1, true), 3);
        due("11: younger through the windows", x.late(2, 1, 0, 1, true), 2);
        due("11: as old", x.late(2, 1, 0, 1, true), 0);
        due("11: older than what follows", x.late(0, 1, 0, 1, true), 1);
        ContinuousRows y = stepped(9, 3);
        asked(y, 0, 1, 0, -1);
        y.change(1, 0, 1, true);
        due("11: up to what was said later", y.late(1, 1, 0, 1, true), 2);
        due("11: one row instead of another", y.late(2, 1, 0, 2, true), 2);
        due("11: with no question", stepped(3, 2).late(1, 1, 1, 1, true), 0);
        ContinuousRows z = stepped(9, 2);
        asked(z, 0);
        due("11: a question without patterns", z.late(0, 1, 1, 1, true), 0);
    }

    private static void lateWrong() {
        ContinuousRows x = stepped(9, 2);
        asked(x, 0, -1, -2, -3);
        due("11: the latest is not before", x.late(2, 0, 0, 0, true), BAD);
        due("11: no number", List.of(x.late(-1, 0, 0, 0, true), x.late(3, 0, 0, 0, false)), List.of(BAD, BAD));
        for (int i = 0; i < NO_TRIPLES.length; i += 3) {
            due("11: no triple", x.late(1, NO_TRIPLES[i], NO_TRIPLES[i + 1], NO_TRIPLES[i + 2], true), BAD);
        }
        due("11: nothing was said", x.rows(0, 2), 0);
        due("11: at the first number", new ContinuousRows(9).late(0, 0, 0, 0, true), BAD);
    }

    private static void still() {
        ContinuousRows x = new ContinuousRows(9);
        asked(x, 0, -1, 0, 0);
        asked(x, 2, -1, 0, 0);
        due("12: at the first number", x.still(0), 0);
        x.change(1, 0, 0, true);
        due("12: at the first number", x.still(0), 0);
        x.step();
        x.step();
        due("12: the same since 0", x.still(0), 0);
        due("12: too old since 2", x.still(1), 2);
        x.change(1, 0, 0, false);
        x.change(2, 0, 0, true);
        due("12: as many, but others", x.still(0), 2);
        x.step();
        x.change(2, 0, 0, false);
        due("12: gone", x.still(0), 3);
        x.step();
        x.change(2, 0, 0, true);
        x.step();
        due("12: the same as before, but not between", x.still(0), 4);
        due("12: no question", List.of(x.still(2), x.still(-1), x.still(Integer.MIN_VALUE)), List.of(BAD, BAD, BAD));
    }

    private static void there() {
        ContinuousRows x = stepped(9, 1);
        x.change(15, 7, 15, true);
        x.step();
        x.step();
        x.change(15, 7, 15, false);
        due("13: there", List.of(x.there(0, 15, 7, 15), x.there(1, 15, 7, 15), x.there(2, 15, 7, 15),
                x.there(3, 15, 7, 15)), List.of(0, 1, 1, 0));
        due("13: others", List.of(x.there(1, 14, 7, 15), x.there(1, 15, 6, 15), x.there(1, 15, 7, 14)),
                List.of(0, 0, 0));
        due("13: no number", List.of(x.there(-1, 0, 0, 0), x.there(4, 0, 0, 0)), List.of(BAD, BAD));
        for (int i = 0; i < NO_TRIPLES.length; i += 3) {
            due("13: no triple", x.there(1, NO_TRIPLES[i], NO_TRIPLES[i + 1], NO_TRIPLES[i + 2]), BAD);
        }
    }

    private static void age() {
        ContinuousRows x = stepped(9, 1);
        x.change(4, 4, 4, true);
        for (int i = 0; i < 4; i++) {
            x.step();
        }
        due("14: before it came", x.age(0, 4, 4, 4), NO);
        due("14: ages", List.of(x.age(1, 4, 4, 4), x.age(2, 4, 4, 4), x.age(5, 4, 4, 4)), List.of(0, 1, 4));
        x.late(3, 4, 4, 4, true);
        due("14: it came again", List.of(x.age(2, 4, 4, 4), x.age(3, 4, 4, 4), x.age(5, 4, 4, 4)), List.of(1, 0, 2));
        x.change(4, 4, 4, false);
        due("14: it is gone", List.of(x.age(4, 4, 4, 4), x.age(5, 4, 4, 4)), List.of(1, NO));
        due("14: no number", List.of(x.age(-1, 4, 4, 4), x.age(6, 4, 4, 4)), List.of(BAD, BAD));
        for (int i = 0; i < NO_TRIPLES.length; i += 3) {
            due("14: no triple", x.age(1, NO_TRIPLES[i], NO_TRIPLES[i + 1], NO_TRIPLES[i + 2]), BAD);
        }
    }

    private static void latest() {
        ContinuousRows x = new ContinuousRows(3);
        for (int number = 0; number <= 3; number++) {
            due("15: latest", x.latest(), number);
            x.change(0, 0, 0, true);
            x.question(0);
            due("15: latest", x.latest(), number);
            x.step();
        }
        due("15: latest when it is full", x.latest(), 3);
    }

    private static void mostRows() {
        ContinuousRows x = stepped(61, 1);
        asked(x, 0, -1, 0, -2, -3, 0, -4);
        for (int i = 0; i < 256; i++) {
            x.change(i / 16, 0, i % 16, true);
        }
        due("7: all rows", x.rows(0, 1), 65536);
        due("8: all came", x.changed(0, 1, true), 65536);
        due("9: the first and the last", List.of(x.row(0, 1, 0, 0), x.row(0, 1, 1, 65535), x.row(0, 1, 0, 65536)),
                List.of(0, 65535, NO));
        due("10: their sum", List.of(x.aggregate(0, 1, 0, 1), x.aggregate(0, 1, 0, 4)), List.of(491520, 491520));
        due("12: still", x.still(0), 1);
        x.step();
        x.change(7, 0, 9, false);
        due("8: went", x.changed(0, 2, false), 511);
        due("9: the first that went", x.row(0, 2, 2, 0), 7 * 16 + 9);
    }
}
