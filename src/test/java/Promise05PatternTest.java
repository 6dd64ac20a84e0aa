public final class Promise05PatternTest extends Tests {
    public static void main(String[] args) {
        run(Promise05PatternTest.class);
    }

    static void promise5HowManyItHas() {
        ContinuousRows x = new ContinuousRows(2);
        x.question(0);
        x.question(0);
        due("of two questions", got(x.pattern(0, -1, -2, -3), x.pattern(1, -4, 7, 15), x.pattern(0, 15, -4, 15),
                x.pattern(0, 0, 0, 0), x.pattern(1, 0, 0, -4)), 1, 1, 2, 3, 2);
    }

    static void promise5EachPatternCounts() {
        ContinuousRows x = new ContinuousRows(0);
        x.question(0);
        for (int i = 0; i < 4; i++) {
            x.change(i, 0, 0, true);
            x.change(i, 1, i % 2, true);
        }
        x.change(0, 2, 0, true);
        x.pattern(0, -1, 0, 0);
        due("with one", x.rows(0, 0), 4);
        x.pattern(0, -1, 1, 0);
        due("with two", x.rows(0, 0), 2);
        x.pattern(0, -1, 2, 0);
        due("with three", x.rows(0, 0), 1);
    }

    static void promise5RowsOfEarlierNumbersAreOthersToo() {
        ContinuousRows x = new ContinuousRows(5);
        x.change(1, 1, 1, true);
        stepTo(x, 3);
        x.change(1, 1, 1, false);
        x.question(0);
        due("before", got(x.rows(0, 0), x.rows(0, 3)), 1, 1);
        x.pattern(0, -1, 1, 1);
        due("at 0 .. 3", got(x.row(0, 0, 0, 0), x.row(0, 2, 0, 0), x.row(0, 3, 0, 0)), 4096, 4096, NO);
    }

    static void promise5BadWhenThereIsNoSuchQuestion() {
        ContinuousRows x = new ContinuousRows(2);
        due("before there is one", x.pattern(0, 0, 0, 0), BAD);
        x.question(0);
        due("beside it and far away", got(x.pattern(-1, 0, 0, 0), x.pattern(1, 0, 0, 0), x.pattern(12, 0, 0, 0),
                x.pattern(LEAST_INT, 0, 0, 0), x.pattern(GREATEST_INT, 0, 0, 0)), BAD, BAD, BAD, BAD, BAD);
        due("it has none", x.pattern(0, 0, 0, 0), 1);
    }

    static void promise5BadBehindTheTwelfthQuestion() {
        ContinuousRows x = new ContinuousRows(2);
        for (int i = 0; i < 12; i++) {
            x.question(0);
        }
        due("of 11 and 12", got(x.pattern(11, 0, 0, 0), x.pattern(12, 0, 0, 0)), 1, BAD);
    }

    static void promise5ItemsAtTheEdges() {
        int[][] patterns = {{0, 0, 0}, {15, 7, 15}, {-1, -1, -1}, {-4, -4, -4}, {-1, 7, 15}, {15, -4, 0}, {0, 0, -4}};
        for (int[] items : patterns) {
            ContinuousRows x = new ContinuousRows(2);
            x.question(0);
            due("items at the edge", x.pattern(0, items[0], items[1], items[2]), 1);
        }
    }

    static void promise5BadWhenSIsNone() {
        ContinuousRows x = new ContinuousRows(2);
        x.question(0);
        due("s", got(x.pattern(0, -5, 0, 0), x.pattern(0, 16, 0, 0), x.pattern(0, LEAST_INT, 0, 0),
                x.pattern(0, GREATEST_INT, 0, 0)), BAD, BAD, BAD, BAD);
    }

    static void promise5BadWhenPIsNone() {
        ContinuousRows x = new ContinuousRows(2);
        x.question(0);
        due("p", got(x.pattern(0, 0, -5, 0), x.pattern(0, 0, 8, 0), x.pattern(0, 0, 15, 0),
                x.pattern(0, 0, LEAST_INT, 0), x.pattern(0, 0, GREATEST_INT, 0)), BAD, BAD, BAD, BAD, BAD);
    }

    static void promise5BadWhenOIsNone() {
        ContinuousRows x = new ContinuousRows(2);
        x.question(0);
        due("o", got(x.pattern(0, 0, 0, -5), x.pattern(0, 0, 0, 16), x.pattern(0, 0, 0, LEAST_INT),
                x.pattern(0, 0, 0, GREATEST_INT)), BAD, BAD, BAD, BAD);
    }

    static void promise5BadAddsNothing() {
        ContinuousRows x = new ContinuousRows(2);
        x.question(0);
        x.pattern(0, -1, 8, 0);
        x.pattern(0, -5, 0, 0);
        due("the one row 0 still", keys(x, 0, 0, 0), 0);
        x.change(3, 1, 4, true);
        due("the first pattern", x.pattern(0, 3, 1, -2), 1);
        x.pattern(0, -1, 0, 16);
        due("its row", keys(x, 0, 0, 0), key(0, 4, 0, 0));
    }

    static void promise5FullWhenItHasThree() {
        ContinuousRows x = new ContinuousRows(2);
        x.question(0);
        due("four and five", got(x.pattern(0, -1, 0, 0), x.pattern(0, -1, 0, 0), x.pattern(0, -1, 0, 0),
                x.pattern(0, -1, 0, 0), x.pattern(0, -1, 0, 0)), 1, 2, 3, FULL, FULL);
    }

    static void promise5FullAddsNothing() {
        ContinuousRows x = new ContinuousRows(2);
        x.change(1, 0, 2, true);
        ask(x, 0, -1, 0, 2, -1, 0, 2, -1, 0, 2);
        x.question(0);
        x.pattern(0, 9, 0, -2);
        due("its rows", keys(x, 0, 0, 0), key(1, 0, 0, 0));
        due("the next question's rows and patterns", got(x.row(1, 0, 0, 0), x.row(1, 0, 0, 1), x.pattern(1, 0, 0, 0)),
                0, NO, 1);
    }

    static void promise5BadGoesBeforeFull() {
        ContinuousRows x = new ContinuousRows(2);
        ask(x, 0, -1, 0, 0, -1, 0, 0, -1, 0, 0);
        due("no item", x.pattern(0, 16, 0, 0), BAD);
    }
}
