public final class Promise09RowTest extends Tests {
    public static void main(String[] args) {
        run(Promise09RowTest.class);
    }

    /** At 0 the rows (1,1) (1,2) (2,1) of -1 and -4; at 1 the rows (1,4) and (2,1). */
    private static ContinuousRows comingAndGoing() {
        ContinuousRows x = new ContinuousRows(9);
        ask(x, 0, -4, 1, -1);
        x.change(1, 1, 2, true);
        x.change(2, 1, 1, true);
        x.change(1, 1, 1, true);
        x.step();
        x.change(1, 1, 1, false);
        x.change(2, 1, 1, false);
        x.change(4, 1, 1, true);
        return x;
    }

    static void promise9ByTheirKeys() {
        ContinuousRows x = comingAndGoing();
        due("has at 0", keys(x, 0, 0, 0), 4097, 4098, 8193);
        due("has at 1", keys(x, 0, 1, 0), 4100, 8193);
    }

    static void promise9ThatCame() {
        ContinuousRows x = comingAndGoing();
        due("came with 0", keys(x, 0, 0, 1), 4097, 4098, 8193);
        due("came with 1", keys(x, 0, 1, 1), 4100);
    }

    static void promise9ThatWent() {
        ContinuousRows x = comingAndGoing();
        due("went with 0", keys(x, 0, 0, 2));
        due("went with 1", keys(x, 0, 1, 2), 4097, 4098);
    }

    static void promise9WithZeroWhateverWasAskedBefore() {
        ContinuousRows x = comingAndGoing();
        due("went with 1, then came and went with 0", got(x.row(0, 1, 2, 0), x.row(0, 0, 1, 0), x.row(0, 1, 1, 0),
                x.row(0, 0, 2, 0)), 4097, 4097, 4100, NO);
    }

    static void promise9ByKeysAcrossAllVariables() {
        ContinuousRows x = new ContinuousRows(0);
        ask(x, 0, -2, -3, -1);
        x.change(2, 7, 1, true);
        x.change(1, 0, 2, true);
        x.change(1, 7, 1, true);
        x.change(1, 6, 1, true);
        due("rows", keys(x, 0, 0, 0), key(1, 1, 6, 0), key(1, 1, 7, 0), key(1, 2, 7, 0), key(2, 1, 0, 0));
    }

    static void promise9NoWhenIIsTooLarge() {
        ContinuousRows x = comingAndGoing();
        due("has two", got(x.row(0, 1, 0, 1), x.row(0, 1, 0, 2), x.row(0, 1, 0, GREATEST_INT)), 8193, NO, NO);
        due("one came", got(x.row(0, 1, 1, 0), x.row(0, 1, 1, 1), x.row(0, 1, 1, GREATEST_INT)), 4100, NO, NO);
        due("two went", got(x.row(0, 1, 2, 1), x.row(0, 1, 2, 2), x.row(0, 1, 2, GREATEST_INT)), 4098, NO, NO);
    }

    static void promise9NoWhenIIsTooSmall() {
        ContinuousRows x = comingAndGoing();
        due("-1", got(x.row(0, 1, 0, -1), x.row(0, 1, 1, -1), x.row(0, 1, 2, -1)), NO, NO, NO);
        due("far away", got(x.row(0, 1, 0, LEAST_INT), x.row(0, 1, 2, LEAST_INT)), NO, NO);
    }

    static void promise9NoWhenThereIsNoRow() {
        ContinuousRows x = at(1, 5);
        ask(x, 0, -1, 0, 0);
        due("has, came, went", got(x.row(0, 1, 0, 0), x.row(0, 1, 1, 0), x.row(0, 1, 2, 0)), NO, NO, NO);
        due("at 0", got(x.row(0, 0, 0, 0), x.row(0, 0, 1, 0), x.row(0, 0, 2, 0)), NO, NO, NO);
    }

    static void promise9WithoutPatternsTheRowZero() {
        ContinuousRows x = at(1, 5);
        x.question(0);
        due("has at 0 and 1", got(x.row(0, 0, 0, 0), x.row(0, 0, 0, 1), x.row(0, 1, 0, 0)), 0, NO, 0);
        due("came with 0 and 1", got(x.row(0, 0, 1, 0), x.row(0, 1, 1, 0)), 0, NO);
        due("went with 0 and 1", got(x.row(0, 0, 2, 0), x.row(0, 1, 2, 0)), NO, NO);
    }

    static void promise9TheFirstAndTheLastOfAllKeys() {
        ContinuousRows x = at(1, 5);
        ask(x, 0, -1, 0, -2, -3, 0, -4);
        for (int i = 255; i >= 0; i--) {
            x.change(i / 16, 0, i % 16, true);
        }
        due("has", got(x.row(0, 1, 0, 0), x.row(0, 1, 0, 4660), x.row(0, 1, 0, 65535), x.row(0, 1, 0, 65536)),
                0, 4660, 65535, NO);
        due("came", got(x.row(0, 1, 1, 0), x.row(0, 1, 1, 65535), x.row(0, 1, 1, 65536)), 0, 65535, NO);
        x.step();
        x.change(15, 0, 15, false);
        due("went", got(x.row(0, 2, 2, 0), x.row(0, 2, 2, 510), x.row(0, 2, 2, 511)), 255, 65535, NO);
    }

    static void promise9BadForAnotherWhich() {
        ContinuousRows x = comingAndGoing();
        due("which", got(x.row(0, 1, -1, 0), x.row(0, 1, 3, 0), x.row(0, 1, LEAST_INT, 0), x.row(0, 1, GREATEST_INT, 0)),
                BAD, BAD, BAD, BAD);
    }

    static void promise9BadBehindTheLatest() {
        ContinuousRows x = comingAndGoing();
        due("number", got(x.row(0, 2, 0, 0), x.row(0, 2, 1, 0), x.row(0, 2, 2, 0), x.row(0, 9, 2, 0), x.row(0, 10, 0, 0),
                x.row(0, GREATEST_INT, 1, 0)), BAD, BAD, BAD, BAD, BAD, BAD);
    }

    static void promise9BadBelowZero() {
        ContinuousRows x = comingAndGoing();
        due("number", got(x.row(0, -1, 0, 0), x.row(0, -1, 1, 0), x.row(0, -1, 2, 0), x.row(0, LEAST_INT, 0, 0)),
                BAD, BAD, BAD, BAD);
    }

    static void promise9BadWhenThereIsNoSuchQuestion() {
        ContinuousRows x = comingAndGoing();
        due("question", got(x.row(-1, 0, 0, 0), x.row(1, 0, 0, 0), x.row(12, 0, 0, 0), x.row(LEAST_INT, 0, 0, 0),
                x.row(GREATEST_INT, 0, 0, 0)), BAD, BAD, BAD, BAD, BAD);
    }

    static void promise9BadGoesBeforeNo() {
        ContinuousRows x = comingAndGoing();
        due("no which and no such row", got(x.row(0, 1, 3, 99), x.row(0, 1, -1, -1), x.row(0, 5, 0, 99)), BAD, BAD, BAD);
    }
}
