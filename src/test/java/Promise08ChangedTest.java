public final class Promise08ChangedTest extends Tests {
    public static void main(String[] args) {
        run(Promise08ChangedTest.class);
    }

    /** With 0 three rows come; with 1 two go and one comes; with 2 none. */
    private static ContinuousRows comingAndGoing() {
        ContinuousRows x = new ContinuousRows(9);
        ask(x, 0, -4, 1, -1);
        x.change(1, 1, 1, true);
        x.change(2, 1, 1, true);
        x.change(1, 1, 2, true);
        x.step();
        x.change(1, 1, 1, false);
        x.change(2, 1, 1, false);
        x.change(4, 1, 1, true);
        x.step();
        return x;
    }

    static void promise8CameAndWentWithANumber() {
        ContinuousRows x = comingAndGoing();
        due("with 1", got(x.changed(0, 1, true), x.changed(0, 1, false)), 1, 2);
        due("with 2", got(x.changed(0, 2, true), x.changed(0, 2, false)), 0, 0);
    }

    static void promise8WithZeroAllCameAndNoneWent() {
        ContinuousRows x = comingAndGoing();
        due("with 0", got(x.changed(0, 0, true), x.changed(0, 0, false)), 3, 0);
        due("with 0, whatever was asked before", got(x.rows(0, 1), x.changed(0, 1, false), x.changed(0, 0, true),
                x.changed(0, 2, true), x.changed(0, 0, false)), 2, 2, 3, 0, 0);
    }

    static void promise8WithoutPatternsTheOneRowCameWithZero() {
        ContinuousRows x = at(2, 9);
        x.question(0);
        due("came with 0, 1, 2", got(x.changed(0, 0, true), x.changed(0, 1, true), x.changed(0, 2, true)), 1, 0, 0);
        due("went with 0, 1, 2", got(x.changed(0, 0, false), x.changed(0, 1, false), x.changed(0, 2, false)), 0, 0, 0);
    }

    static void promise8WithTheLatestNumber() {
        ContinuousRows x = at(61, 62);
        ask(x, 0, -1, 0, 0);
        x.change(1, 0, 0, true);
        due("with 61", got(x.changed(0, 61, true), x.changed(0, 61, false)), 1, 0);
    }

    static void promise8RowsThatDifferInTheLastVariableAlone() {
        ContinuousRows x = new ContinuousRows(3);
        ask(x, 0, 1, 0, -4);
        x.change(1, 0, 3, true);
        x.change(1, 0, 5, true);
        x.step();
        x.change(1, 0, 3, false);
        x.change(1, 0, 4, true);
        x.change(1, 0, 6, true);
        due("with 1", got(x.changed(0, 1, true), x.changed(0, 1, false)), 2, 1);
    }

    static void promise8AllKeysThereAre() {
        ContinuousRows x = at(1, 3);
        ask(x, 0, -1, 0, -2, -3, 0, -4);
        for (int i = 0; i < 256; i++) {
            x.change(i / 16, 0, i % 16, true);
        }
        x.step();
        x.change(7, 0, 9, false);
        due("came", got(x.changed(0, 0, true), x.changed(0, 1, true), x.changed(0, 2, true)), 0, 65536, 0);
        due("went", got(x.changed(0, 0, false), x.changed(0, 1, false), x.changed(0, 2, false)), 0, 0, 511);
    }

    static void promise8BadBehindTheLatest() {
        ContinuousRows x = comingAndGoing();
        due("came", got(x.changed(0, 3, true), x.changed(0, 9, true), x.changed(0, GREATEST_INT, true)), BAD, BAD, BAD);
        due("went", got(x.changed(0, 3, false), x.changed(0, 10, false), x.changed(0, GREATEST_INT, false)),
                BAD, BAD, BAD);
    }

    static void promise8BadBelowZero() {
        ContinuousRows x = comingAndGoing();
        due("-1, far away", got(x.changed(0, -1, true), x.changed(0, -1, false), x.changed(0, LEAST_INT, true)),
                BAD, BAD, BAD);
    }

    static void promise8BadWhenThereIsNoSuchQuestion() {
        ContinuousRows x = comingAndGoing();
        due("beside it and far away", got(x.changed(-1, 0, true), x.changed(1, 0, false), x.changed(12, 0, true),
                x.changed(LEAST_INT, 0, true), x.changed(GREATEST_INT, 0, false)), BAD, BAD, BAD, BAD, BAD);
    }
}
