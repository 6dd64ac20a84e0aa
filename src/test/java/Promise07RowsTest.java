public final class Promise07RowsTest extends Tests {
    public static void main(String[] args) {
        run(Promise07RowsTest.class);
    }

    static void promise7AtEachNumberUpToTheLatest() {
        ContinuousRows x = new ContinuousRows(9);
        int chain = ask(x, 0, -1, 0, -2, -2, 0, -3);
        x.change(1, 0, 2, true);
        x.change(2, 0, 3, true);
        x.step();
        x.change(2, 0, 4, true);
        x.step();
        x.change(2, 0, 3, false);
        x.step();
        x.change(1, 0, 2, false);
        due("at 0 .. 3", got(x.rows(chain, 0), x.rows(chain, 1), x.rows(chain, 2), x.rows(chain, 3)), 1, 2, 1, 0);
    }

    static void promise7ZeroWhenThereIsNoRow() {
        ContinuousRows x = new ContinuousRows(9);
        due("nothing is there", x.rows(ask(x, 0, -1, -2, -3), 0), 0);
        x.change(1, 1, 1, true);
        due("another triple is there", x.rows(ask(x, 0, -1, 2, 1), 0), 0);
    }

    static void promise7WithoutPatternsOne() {
        ContinuousRows x = at(2, 5);
        x.question(0);
        due("at 0 and 2", got(x.rows(0, 0), x.rows(0, 2)), 1, 1);
    }

    static void promise7WithoutVariablesOneAtMost() {
        ContinuousRows x = new ContinuousRows(9);
        ask(x, 0, 3, 5, 3, 4, 5, 4);
        x.change(3, 5, 3, true);
        due("one triple is there", x.rows(0, 0), 0);
        x.change(4, 5, 4, true);
        due("both are there", x.rows(0, 0), 1);
    }

    static void promise7AllKeysThereAre() {
        ContinuousRows x = new ContinuousRows(0);
        ask(x, 0, -1, 0, -2, -3, 0, -4);
        for (int i = 0; i < 256; i++) {
            x.change(i / 16, 0, i % 16, true);
        }
        due("all came", x.rows(0, 0), 65536);
        x.change(15, 0, 15, false);
        due("one went", x.rows(0, 0), 255 * 255);
    }

    static void promise7TheFirstAndTheLatestNumber() {
        ContinuousRows x = new ContinuousRows(9);
        ask(x, 0, -1, 0, 0);
        x.change(1, 0, 0, true);
        due("at 0, which is the latest", x.rows(0, 0), 1);
        stepTo(x, 9);
        x.change(2, 0, 0, true);
        due("at 0, 8, 9", got(x.rows(0, 0), x.rows(0, 8), x.rows(0, 9)), 1, 1, 2);
    }

    static void promise7BadBehindTheLatest() {
        ContinuousRows x = at(3, 10);
        ask(x, 0);
        due("3, 4, 9, 10, far away", got(x.rows(0, 3), x.rows(0, 4), x.rows(0, 9), x.rows(0, 10),
                x.rows(0, GREATEST_INT)), 1, BAD, BAD, BAD, BAD);
        x.step();
        due("when 4 is the latest", got(x.rows(0, 4), x.rows(0, 5)), 1, BAD);
    }

    static void promise7BadBelowZero() {
        ContinuousRows x = at(3, 10);
        ask(x, 0);
        due("-1, far away", got(x.rows(0, -1), x.rows(0, LEAST_INT)), BAD, BAD);
    }

    static void promise7BadWhenThereIsNoSuchQuestion() {
        ContinuousRows x = new ContinuousRows(9);
        due("before there is one", x.rows(0, 0), BAD);
        x.question(0);
        due("beside it and far away", got(x.rows(-1, 0), x.rows(1, 0), x.rows(12, 0), x.rows(LEAST_INT, 0),
                x.rows(GREATEST_INT, 0)), BAD, BAD, BAD, BAD, BAD);
    }

    static void promise7AskingChangesNothing() {
        ContinuousRows x = new ContinuousRows(9);
        ask(x, 0, -1, 0, 0);
        ask(x, 2, -2, 0, 0);
        x.change(1, 0, 0, true);
        stepTo(x, 2);
        for (int i = 0; i < 3; i++) {
            due("again and again", got(x.rows(0, 0), x.rows(1, 1), x.rows(1, 2), x.rows(0, 2), x.rows(0, 7)),
                    1, 1, 0, 1, BAD);
        }
    }
}
