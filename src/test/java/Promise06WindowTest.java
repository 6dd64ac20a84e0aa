public final class Promise06WindowTest extends Tests {
    public static void main(String[] args) {
        run(Promise06WindowTest.class);
    }

    static void promise6TheOldOne() {
        ContinuousRows x = new ContinuousRows(9);
        x.question(2);
        due("windows", got(x.window(0, 4), x.window(0, 0), x.window(0, 62), x.window(0, 1), x.window(0, 1)),
                2, 4, 0, 62, 1);
    }

    static void promise6RowsOfAllNumbersAreSeenThroughIt() {
        ContinuousRows x = new ContinuousRows(9);
        ask(x, 2, -1, 0, 0);
        x.change(5, 0, 0, true);
        stepTo(x, 4);
        due("2", got(x.rows(0, 0), x.rows(0, 1), x.rows(0, 2), x.rows(0, 3), x.rows(0, 4)), 1, 1, 0, 0, 0);
        x.window(0, 4);
        due("4", got(x.rows(0, 0), x.rows(0, 1), x.rows(0, 2), x.rows(0, 3), x.rows(0, 4)), 1, 1, 1, 1, 0);
        x.window(0, 1);
        due("1", got(x.rows(0, 0), x.rows(0, 1), x.rows(0, 2), x.rows(0, 3), x.rows(0, 4)), 1, 0, 0, 0, 0);
        x.window(0, 0);
        due("0", got(x.rows(0, 0), x.rows(0, 1), x.rows(0, 2), x.rows(0, 3), x.rows(0, 4)), 1, 1, 1, 1, 1);
    }

    static void promise6OtherQuestionsKeepTheirs() {
        ContinuousRows x = new ContinuousRows(9);
        x.question(3);
        x.question(4);
        x.question(5);
        x.window(1, 9);
        due("windows", got(x.window(0, 0), x.window(1, 0), x.window(2, 0)), 3, 9, 5);
    }

    static void promise6WindowsAtTheEdges() {
        ContinuousRows x = new ContinuousRows(9);
        x.question(7);
        due("0 and 62", got(x.window(0, 0), x.window(0, 62), x.window(0, 7)), 7, 0, 62);
    }

    static void promise6BadForATooSmallWindow() {
        ContinuousRows x = new ContinuousRows(9);
        x.question(7);
        due("windows", got(x.window(0, -1), x.window(0, LEAST_INT)), BAD, BAD);
    }

    static void promise6BadForATooLargeWindow() {
        ContinuousRows x = new ContinuousRows(9);
        x.question(7);
        due("windows", got(x.window(0, 63), x.window(0, GREATEST_INT)), BAD, BAD);
    }

    static void promise6BadWhenThereIsNoSuchQuestion() {
        ContinuousRows x = new ContinuousRows(9);
        due("before there is one", x.window(0, 1), BAD);
        x.question(7);
        due("beside it and far away", got(x.window(-1, 1), x.window(1, 1), x.window(12, 1), x.window(LEAST_INT, 1),
                x.window(GREATEST_INT, 1)), BAD, BAD, BAD, BAD, BAD);
    }

    static void promise6BadLeavesTheOldOne() {
        ContinuousRows x = new ContinuousRows(9);
        ask(x, 1, -1, 0, 0);
        x.change(5, 0, 0, true);
        x.step();
        x.window(0, 63);
        due("seen as before", got(x.rows(0, 0), x.rows(0, 1)), 1, 0);
        x.window(0, -1);
        x.window(1, 9);
        due("the old one", x.window(0, 3), 1);
    }
}
