import java.util.ArrayList;
import java.util.Collection;
import java.util.HashMap;
import java.util.List;
import java.util.Map;
import java.util.Random;
import java.util.TreeSet;

/** Long runs of calls from fixed seeds, each answer against a slow model that follows the document word by word. */
public final class ModelTest {
    private static final int BAD = -1;
    private static final int NO = -2;
    private static final int FULL = -3;
    private static final int CALLS = 512;

    private static int wrong = 0;

    public static void main(String[] args) {
        for (int seed = 0; seed < 300 && wrong < 20; seed++) {
            new Run(seed).go();
        }
        for (int seed = 0; seed < 40 && wrong < 20; seed++) {
            new Dense(seed).go();
        }
        System.out.println(wrong == 0 ? "all answers are as due" : wrong + " answers are not as due");
        if (wrong != 0) {
            System.exit(1);
        }
    }

    private static void tell(String what, int got, int want) {
        if (got != want) {
            wrong++;
            System.out.println(what + " answered " + got + ", due is " + want);
        }
    }

    /** Many triples at one number, and every assignment of all four variables tried against each question. */
    private static final class Dense {
        final int seed;
        final Random random;
        final int predicates;
        final boolean[][][] there = new boolean[16][8][16];
        final ContinuousRows real = new ContinuousRows(1);

        Dense(int seed) {
            this.seed = seed;
            random = new Random(seed);
            predicates = 1 + random.nextInt(8);
        }

        void go() {
            real.step();
            for (int i = 0; i < 390; i++) {
                int s = random.nextInt(16);
                int p = random.nextInt(predicates);
                int o = random.nextInt(16);
                real.change(s, p, o, true);
                there[s][p][o] = true;
            }
            for (int question = 0; question < 12; question++) {
                int[][] patterns = ask(question);
                check(question, patterns);
            }
        }

        int[][] ask(int question) {
            int[][] patterns = new int[1 + random.nextInt(3)][];
            real.question(random.nextInt(3));
            for (int k = 0; k < patterns.length; k++) {
                int p = random.nextInt(5) == 0 ? -1 - random.nextInt(4) : random.nextInt(predicates);
                patterns[k] = new int[] {item(), p, item()};
                real.pattern(question, patterns[k][0], patterns[k][1], patterns[k][2]);
            }
            return patterns;
        }

        int item() {
            return random.nextInt(8) == 0 ? random.nextInt(16) : -1 - random.nextInt(4);
        }

        boolean isRow(int[][] patterns, int key) {
            int stands = 0;
            for (int[] pattern : patterns) {
                int[] triple = new int[3];
                for (int i = 0; i < 3; i++) {
                    int item = pattern[i];
                    triple[i] = item >= 0 ? item : key >> 4 * (4 + item) & 15;
                    stands |= item >= 0 ? 0 : 15 << 4 * (4 + item);
                }
                if (triple[1] > 7 || !there[triple[0]][triple[1]][triple[2]]) {
                    return false;
                }
            }
            return (key & ~stands) == 0;
        }

        void check(int question, int[][] patterns) {
            List<Integer> keys = new ArrayList<>();
            int[] sums = new int[4];
            for (int key = 0; key < 65536; key++) {
                if (isRow(patterns, key)) {
                    keys.add(key);
                    for (int variable = 1; variable <= 4; variable++) {
                        sums[variable - 1] += key >> 4 * (4 - variable) & 15;
                    }
                }
            }
            String name = "dense " + seed + ", question " + question + ": ";
            tell(name + "rows", real.rows(question, 1), keys.size());
            tell(name + "changed", real.changed(question, 1, true), keys.size());
            int i = random.nextInt(keys.size() + 1);
            tell(name + "row", real.row(question, 1, 0, i), i < keys.size() ? keys.get(i) : NO);
            int variable = 1 + random.nextInt(4);
            tell(name + "aggregate", real.aggregate(question, 1, 0, variable), sums[variable - 1]);
        }
    }

    private record Thing(int number, int s, int p, int o, boolean comes) {
    }

    private static final class Asked {
        int window;
        final List<int[]> patterns = new ArrayList<>();
    }

    private static final class Model {
        final int numbers;
        final List<Thing> things = new ArrayList<>();
        final List<Asked> questions = new ArrayList<>();
        int latest = 0;

        Model(int numbers) {
            this.numbers = 1 + (numbers % 62 + 62) % 62;
        }

        static boolean within(int x, int low, int high) {
            return low <= x && x <= high;
        }

        static boolean triple(int s, int p, int o) {
            return within(s, 0, 15) && within(p, 0, 7) && within(o, 0, 15);
        }

        boolean bad(int question, int number) {
            return !within(question, 0, questions.size() - 1) || !within(number, 0, latest);
        }

        Thing last(int number, int s, int p, int o) {
            Thing last = null;
            for (Thing thing : things) {
                boolean same = thing.s == s && thing.p == p && thing.o == o && thing.number <= number;
                if (same && (last == null || thing.number >= last.number)) {
                    last = thing;
                }
            }
            return last;
        }

        Collection<Thing> lastThings(int number) {
            Map<List<Integer>, Thing> last = new HashMap<>();
            for (Thing thing : things) {
                List<Integer> triple = List.of(thing.s, thing.p, thing.o);
                boolean later = !last.containsKey(triple) || thing.number >= last.get(triple).number;
                if (thing.number <= number && later) {
                    last.put(triple, thing);
                }
            }
            return last.values();
        }

        int change(int s, int p, int o, boolean comes) {
            if (!triple(s, p, o)) {
                return BAD;
            }
            if (things.size() == 400) {
                return FULL;
            }
            int was = there(latest, s, p, o);
            things.add(new Thing(latest, s, p, o, comes));
            return there(latest, s, p, o) != was ? 1 : 0;
        }

        int step() {
            return latest + 1 == numbers ? FULL : ++latest;
        }

        int question(int window) {
            if (!within(window, 0, 62)) {
                return BAD;
            }
            if (questions.size() == 12) {
                return FULL;
            }
            Asked asked = new Asked();
            asked.window = window;
            questions.add(asked);
            return questions.size() - 1;
        }

        int pattern(int question, int s, int p, int o) {
            if (bad(question, 0) || !within(s, -4, 15) || !within(p, -4, 7) || !within(o, -4, 15)) {
                return BAD;
            }
            List<int[]> patterns = questions.get(question).patterns;
            if (patterns.size() == 3) {
                return FULL;
            }
            patterns.add(new int[] {s, p, o});
            return patterns.size();
        }

        int window(int question, int window) {
            if (bad(question, 0) || !within(window, 0, 62)) {
                return BAD;
            }
            int old = questions.get(question).window;
            questions.get(question).window = window;
            return old;
        }

        TreeSet<Integer> keys(int question, int number) {
            TreeSet<Integer> keys = new TreeSet<>();
            Asked asked = questions.get(question);
            List<int[]> seen = new ArrayList<>();
            for (Thing thing : lastThings(number)) {
                boolean young = asked.window == 0 || number - thing.number < asked.window;
                if (thing.comes && young) {
                    seen.add(new int[] {thing.s, thing.p, thing.o});
                }
            }
            join(asked, seen, 0, new int[] {-1, -1, -1, -1}, keys);
            return keys;
        }

        private static void join(Asked asked, List<int[]> seen, int at, int[] values, TreeSet<Integer> keys) {
            if (at == asked.patterns.size()) {
                int key = 0;
                for (int value : values) {
                    key = key * 16 + Math.max(value, 0);
                }
                keys.add(key);
                return;
            }
            for (int[] triple : seen) {
                int[] next = values.clone();
                boolean fits = true;
                for (int i = 0; i < 3; i++) {
                    int item = asked.patterns.get(at)[i];
                    if (item >= 0) {
                        fits &= item == triple[i];
                    } else {
                        fits &= next[-1 - item] < 0 || next[-1 - item] == triple[i];
                        next[-1 - item] = triple[i];
                    }
                }
                if (fits) {
                    join(asked, seen, at + 1, next, keys);
                }
            }
        }

        List<Integer> keys(int question, int number, int which) {
            TreeSet<Integer> now = keys(question, number);
            TreeSet<Integer> before = number == 0 ? new TreeSet<>() : keys(question, number - 1);
            TreeSet<Integer> answer = new TreeSet<>(which == 2 ? before : now);
            if (which != 0) {
                answer.removeAll(which == 1 ? before : now);
            }
            return new ArrayList<>(answer);
        }

        int rows(int question, int number) {
            return bad(question, number) ? BAD : keys(question, number, 0).size();
        }

        int changed(int question, int number, boolean came) {
            return bad(question, number) ? BAD : keys(question, number, came ? 1 : 2).size();
        }

        int row(int question, int number, int which, int i) {
            if (bad(question, number) || !within(which, 0, 2)) {
                return BAD;
            }
            List<Integer> keys = keys(question, number, which);
            return within(i, 0, keys.size() - 1) ? keys.get(i) : NO;
        }

        int aggregate(int question, int number, int kind, int variable) {
            if (bad(question, number) || !within(kind, 0, 2) || !within(variable, 1, 4)) {
                return BAD;
            }
            int sum = 0;
            int least = NO;
            int greatest = NO;
            for (int key : keys(question, number)) {
                int value = new int[] {key / 4096, key / 256 % 16, key / 16 % 16, key % 16}[variable - 1];
                sum += value;
                least = least == NO ? value : Math.min(least, value);
                greatest = Math.max(greatest, value);
            }
            return kind == 0 ? sum : kind == 1 ? least : greatest;
        }

        List<List<TreeSet<Integer>>> allKeys() {
            List<List<TreeSet<Integer>>> all = new ArrayList<>();
            for (int number = 0; number <= latest; number++) {
                List<TreeSet<Integer>> here = new ArrayList<>();
                for (int question = 0; question < questions.size(); question++) {
                    here.add(keys(question, number));
                }
                all.add(here);
            }
            return all;
        }

        int late(int number, int s, int p, int o, boolean comes) {
            if (!triple(s, p, o) || !within(number, 0, latest - 1)) {
                return BAD;
            }
            if (things.size() == 400) {
                return FULL;
            }
            List<List<TreeSet<Integer>>> before = allKeys();
            things.add(new Thing(number, s, p, o, comes));
            List<List<TreeSet<Integer>>> after = allKeys();
            int others = 0;
            for (int i = 0; i <= latest; i++) {
                others += before.get(i).equals(after.get(i)) ? 0 : 1;
            }
            return others;
        }

        int still(int question) {
            if (bad(question, 0)) {
                return BAD;
            }
            int number = latest;
            while (number > 0 && keys(question, number - 1).equals(keys(question, number))) {
                number--;
            }
            return number;
        }

        int there(int number, int s, int p, int o) {
            if (!triple(s, p, o) || !within(number, 0, latest)) {
                return BAD;
            }
            Thing last = last(number, s, p, o);
            return last != null && last.comes ? 1 : 0;
        }

        int age(int number, int s, int p, int o) {
            int there = there(number, s, p, o);
            return there == 1 ? number - last(number, s, p, o).number : there == 0 ? NO : BAD;
        }
    }

    private static final class Run {
        final int seed;
        final Random random;
        final int values;
        final int predicates;
        final int steps;
        final int wild;
        final ContinuousRows real;
        final Model model;

        Run(int seed) {
            this.seed = seed;
            random = new Random(seed);
            values = new int[] {2, 3, 4, 6, 16}[random.nextInt(5)];
            predicates = new int[] {1, 2, 3, 8}[random.nextInt(4)];
            steps = 1 + random.nextInt(12);
            wild = new int[] {0, 20, 60}[random.nextInt(3)];
            int numbers = random.nextInt(4) == 0 ? random.nextInt() : 1 + random.nextInt(20);
            real = new ContinuousRows(numbers);
            model = new Model(numbers);
        }

        void go() {
            for (int call = 0; call < CALLS && wrong < 20; call++) {
                callOne(call);
            }
        }

        /** Mostly 0 .. below - 1, now and then a number beside it or far away. */
        int pick(int below) {
            if (wild > 0 && random.nextInt(wild) == 0) {
                int[] strange = {-1, below, -5, 16, 63, Integer.MIN_VALUE, Integer.MAX_VALUE};
                return strange[random.nextInt(strange.length)];
            }
            return random.nextInt(Math.max(1, below));
        }

        int item(int below) {
            return random.nextInt(10) < 6 ? -1 - pick(4) : pick(below);
        }

        int window() {
            return random.nextInt(3) == 0 ? 0 : random.nextInt(8) == 0 ? pick(63) : pick(8);
        }

        int number() {
            return random.nextInt(3) == 0 ? model.latest : pick(model.latest + 1);
        }

        int asked() {
            return pick(model.questions.size());
        }

        void callOne(int call) {
            int s = pick(values);
            int p = pick(predicates);
            int o = pick(values);
            int kind = random.nextInt(16 + steps);
            if (kind >= 16) {
                boolean comes = random.nextInt(4) != 0;
                due(call, "change", real.change(s, p, o, comes), model.change(s, p, o, comes), s, p, o, comes);
            } else if (kind >= 8) {
                ask(call, kind);
            } else if (kind <= 1) {
                due(call, "step", real.step(), model.step());
            } else if (kind == 2) {
                int window = window();
                due(call, "question", real.question(window), model.question(window), window);
            } else if (kind == 3) {
                int q = asked();
                int a = item(values);
                int b = item(predicates);
                int c = item(values);
                due(call, "pattern", real.pattern(q, a, b, c), model.pattern(q, a, b, c), q, a, b, c);
            } else if (kind == 4) {
                int q = asked();
                int window = window();
                due(call, "window", real.window(q, window), model.window(q, window), q, window);
            } else if (kind <= 6) {
                int n = pick(model.latest);
                boolean comes = random.nextInt(3) != 0;
                due(call, "late", real.late(n, s, p, o, comes), model.late(n, s, p, o, comes), n, s, p, o, comes);
            } else {
                due(call, "latest", real.latest(), model.latest);
            }
        }

        void ask(int call, int kind) {
            int q = asked();
            int n = number();
            int s = pick(values);
            int p = pick(predicates);
            int o = pick(values);
            boolean came = random.nextBoolean();
            int which = pick(3);
            int i = random.nextInt(3) == 0 ? random.nextInt(20) : pick(3);
            int variable = 1 + pick(4);
            switch (kind) {
                case 8, 9 -> due(call, "rows", real.rows(q, n), model.rows(q, n), q, n);
                case 10 -> due(call, "changed", real.changed(q, n, came), model.changed(q, n, came), q, n, came);
                case 11, 12 -> due(call, "row", real.row(q, n, which, i), model.row(q, n, which, i), q, n, which, i);
                case 13 -> due(call, "aggregate", real.aggregate(q, n, which, variable),
                        model.aggregate(q, n, which, variable), q, n, which, variable);
                case 14 -> due(call, "still", real.still(q), model.still(q), q);
                default -> {
                    if (came) {
                        due(call, "there", real.there(n, s, p, o), model.there(n, s, p, o), n, s, p, o);
                    } else {
                        due(call, "age", real.age(n, s, p, o), model.age(n, s, p, o), n, s, p, o);
                    }
                }
            }
        }

        void due(int call, String name, int got, int want, Object... arguments) {
            tell("seed " + seed + ", call " + call + ": " + name + List.of(arguments), got, want);
        }
    }
}
