public final class Promise10AggregateTest extends Tests {
    private static final int SUM = 0;
    private static final int LEAST = 1;
    private static final int GREATEST = 2;

    public static void main(String[] args) {
        run(Promise10AggregateTest.class);
    }

    private static int[] kinds(ContinuousRows x, int question, int number, int variable) {
        return got(x.aggregate(question, number, SUM, variable), x.aggregate(question, number, LEAST, variable),
                x.aggregate(question, number, GREATEST, variable));
    }

    /** At 0 no row; at 1 the rows (3,7,0,15) (3,7,0,4) (8,2,0,4). */
    private static ContinuousRows threeRows() {
        ContinuousRows x = at(1, 10);
        ask(x, 0, -1, -2, -4);
        x.change(3, 7, 15, true);
        x.change(3, 7, 4, true);
        x.change(8, 2, 4, true);
        return x;
    }

    static void promise10SumLeastAndGreatestOfEachVariable() {
        ContinuousRows x = threeRows();
        due("-1", kinds(x, 0, 1, 1), 14, 3, 8);
        due("-2", kinds(x, 0, 1, 2), 16, 2, 7);
        due("-4", kinds(x, 0, 1, 4), 23, 4, 15);
        int third = ask(x, 0, 3, 7, -3);
        due("-3", kinds(x, third, 1, 3), 19, 4, 15);
    }

    static void promise10OfAVariableThatDoesNotStand() {
        due("-3", kinds(threeRows(), 0, 1, 3), 0, 0, 0);
    }

    static void promise10OfAllRowsAndNotOfAllNumbers() {
        ContinuousRows x = threeRows();
        int joined = ask(x, 0, -3, -1, 4, -3, -2, -4);
        due("three rows", x.rows(joined, 1), 3);
        due("-3 is 3, 3, 8", x.aggregate(joined, 1, SUM, 3), 14);
    }

    static void promise10SumIsZeroWhenThereIsNoRow() {
        ContinuousRows x = threeRows();
        for (int variable = 1; variable <= 4; variable++) {
            due("the sum of " + variable, x.aggregate(0, 0, SUM, variable), 0);
        }
    }

    static void promise10NoWhenThereIsNoRow() {
        ContinuousRows x = threeRows();
        for (int variable = 1; variable <= 4; variable++) {
            due("least and greatest of " + variable, got(x.aggregate(0, 0, LEAST, variable),
                    x.aggregate(0, 0, GREATEST, variable)), NO, NO);
        }
    }

    static void promise10WithoutPatternsOfTheRowZero() {
        ContinuousRows x = new ContinuousRows(0);
        x.question(0);
        for (int variable = 1; variable <= 4; variable++) {
            due("of " + variable, kinds(x, 0, 0, variable), 0, 0, 0);
        }
    }

    static void promise10LeastZeroAndGreatest15() {
        ContinuousRows x = new ContinuousRows(0);
        ask(x, 0, -1, 0, -4);
        x.change(0, 0, 15, true);
        x.change(15, 0, 0, true);
        due("-1", kinds(x, 0, 0, 1), 15, 0, 15);
        due("-4", kinds(x, 0, 0, 4), 15, 0, 15);
        ContinuousRows y = new ContinuousRows(0);
        ask(y, 0, -2, 0, -3);
        y.change(0, 0, 0, true);
        due("one row, of zeros", got(y.aggregate(0, 0, SUM, 2), y.aggregate(0, 0, LEAST, 2),
                y.aggregate(0, 0, GREATEST, 3)), 0, 0, 0);
    }

    static void promise10TheGreatestSum() {
        ContinuousRows x = new ContinuousRows(0);
        ask(x, 0, -1, 0, -2, -3, 0, -4);
        for (int i = 0; i < 256; i++) {
            x.change(i / 16, 0, i % 16, true);
        }
        for (int variable = 1; variable <= 4; variable++) {
            due("of " + variable, kinds(x, 0, 0, variable), 491520, 0, 15);
        }
    }

    static void promise10AtEachNumberUpToTheLatest() {
        ContinuousRows x = threeRows();
        x.step();
        x.change(8, 2, 4, false);
        due("-1 at 0, 1, 2", got(x.aggregate(0, 0, SUM, 1), x.aggregate(0, 1, SUM, 1), x.aggregate(0, 2, SUM, 1)),
                0, 14, 6);
    }

    static void promise10BadForAnotherKind() {
        ContinuousRows x = threeRows();
        due("kinds", got(x.aggregate(0, 1, -1, 1), x.aggregate(0, 1, 3, 1), x.aggregate(0, 1, LEAST_INT, 1),
                x.aggregate(0, 1, GREATEST_INT, 1)), BAD, BAD, BAD, BAD);
    }

    static void promise10BadForAnotherVariable() {
        ContinuousRows x = threeRows();
        for (int kind = SUM; kind <= GREATEST; kind++) {
            due("variables", got(x.aggregate(0, 1, kind, 0), x.aggregate(0, 1, kind, 5), x.aggregate(0, 1, kind, -1),
                    x.aggregate(0, 1, kind, -4), x.aggregate(0, 1, kind, LEAST_INT),
                    x.aggregate(0, 1, kind, GREATEST_INT)), BAD, BAD, BAD, BAD, BAD, BAD);
        }
    }

    static void promise10BadBehindTheLatest() {
        ContinuousRows x = threeRows();
        due("numbers", got(x.aggregate(0, 2, SUM, 1), x.aggregate(0, 9, LEAST, 1), x.aggregate(0, 10, SUM, 1),
                x.aggregate(0, GREATEST_INT, SUM, 1)), BAD, BAD, BAD, BAD);
    }

    static void promise10BadBelowZero() {
        ContinuousRows x = threeRows();
        due("numbers", got(x.aggregate(0, -1, SUM, 1), x.aggregate(0, LEAST_INT, GREATEST, 1)), BAD, BAD);
    }

    static void promise10BadWhenThereIsNoSuchQuestion() {
        ContinuousRows x = threeRows();
        due("questions", got(x.aggregate(-1, 0, SUM, 1), x.aggregate(1, 0, SUM, 1), x.aggregate(12, 0, SUM, 1),
                x.aggregate(LEAST_INT, 0, SUM, 1), x.aggregate(GREATEST_INT, 0, SUM, 1)), BAD, BAD, BAD, BAD, BAD);
    }

    static void promise10BadGoesBeforeNo() {
        ContinuousRows x = threeRows();
        due("no row, and no such variable, kind", got(x.aggregate(0, 0, LEAST, 0), x.aggregate(0, 0, GREATEST, 5),
                x.aggregate(0, 0, 3, 1)), BAD, BAD, BAD);
    }
}
