public final class Promise12StillTest extends Tests {
    public static void main(String[] args) {
        run(Promise12StillTest.class);
    }

    static void promise12AtTheFirstNumberZero() {
        ContinuousRows x = new ContinuousRows(9);
        ask(x, 0, -1, 0, 0);
        due("no row", x.still(0), 0);
        x.change(1, 0, 0, true);
        due("a row that came with 0", x.still(0), 0);
    }

    static void promise12ZeroWhenTheyHaveAlwaysBeenTheSame() {
        ContinuousRows x = new ContinuousRows(61);
        ask(x, 0, -1, 0, 0);
        ask(x, 0, -1, 1, 0);
        ask(x, 62, -1, 0, 0);
        x.change(1, 0, 0, true);
        stepTo(x, 61);
        due("one row, none, one through 62", got(x.still(0), x.still(1), x.still(2)), 0, 0, 0);
    }

    static void promise12WithoutPatternsZero() {
        ContinuousRows x = at(5, 10);
        x.question(1);
        x.change(1, 1, 1, true);
        due("the one row 0", x.still(0), 0);
    }

    static void promise12TheLatestWhenTheyAreOthersNow() {
        ContinuousRows x = at(61, 62);
        ask(x, 0, -1, 0, 0);
        x.change(1, 0, 0, true);
        due("came with 61", x.still(0), 61);
    }

    static void promise12FromTheNumberWithWhichTheyCame() {
        ContinuousRows x = at(1, 10);
        ask(x, 0, -1, 0, 0);
        x.change(1, 0, 0, true);
        stepTo(x, 4);
        due("from 1 on", x.still(0), 1);
    }

    static void promise12AsManyButOthers() {
        ContinuousRows x = new ContinuousRows(9);
        ask(x, 0, -1, 0, 0);
        ask(x, 0, 0, 0, -4, 0, 0, -4);
        x.change(1, 0, 0, true);
        x.change(0, 0, 1, true);
        stepTo(x, 2);
        x.change(1, 0, 0, false);
        x.change(2, 0, 0, true);
        x.change(0, 0, 1, false);
        x.change(0, 0, 2, true);
        stepTo(x, 4);
        due("from 2 on", got(x.still(0), x.still(1)), 2, 2);
    }

    static void promise12AsBeforeButNotBetween() {
        ContinuousRows x = new ContinuousRows(9);
        ask(x, 0, -1, 0, 0);
        x.change(2, 0, 0, true);
        stepTo(x, 3);
        x.change(2, 0, 0, false);
        x.step();
        x.change(2, 0, 0, true);
        x.step();
        due("from 4 on", x.still(0), 4);
    }

    static void promise12GoneAndBackAtOneNumber() {
        ContinuousRows x = new ContinuousRows(9);
        ask(x, 0, -1, 0, 0);
        x.change(2, 0, 0, true);
        stepTo(x, 3);
        x.change(2, 0, 0, false);
        x.change(2, 0, 0, true);
        due("the same since 0", x.still(0), 0);
    }

    static void promise12ThroughAWindow() {
        ContinuousRows x = new ContinuousRows(9);
        ask(x, 2, -1, 0, 0);
        x.change(1, 0, 0, true);
        stepTo(x, 1);
        due("seen at 0, 1", x.still(0), 0);
        stepTo(x, 4);
        due("too old from 2 on", x.still(0), 2);
        x.window(0, 3);
        due("too old from 3 on", x.still(0), 3);
    }

    static void promise12ChangesThatComeLateCount() {
        ContinuousRows x = at(5, 10);
        ask(x, 0, -1, 0, 0);
        due("none", x.still(0), 0);
        x.late(2, 1, 0, 0, true);
        due("from 2 on", x.still(0), 2);
        x.late(4, 1, 0, 0, false);
        due("from 4 on", x.still(0), 4);
    }

    static void promise12BadWhenThereIsNoSuchQuestion() {
        ContinuousRows x = at(2, 10);
        due("before there is one", x.still(0), BAD);
        x.question(0);
        due("beside it and far away", got(x.still(-1), x.still(1), x.still(12), x.still(LEAST_INT),
                x.still(GREATEST_INT)), BAD, BAD, BAD, BAD, BAD);
    }
}
