public final class Promise03StepTest extends Tests {
    public static void main(String[] args) {
        run(Promise03StepTest.class);
    }

    static void promise3TheNextNumberIsTheLatest() {
        ContinuousRows x = new ContinuousRows(2);
        due("steps", got(x.step(), x.latest(), x.step(), x.latest()), 1, 1, 2, 2);
    }

    static void promise3FullBehindTheLastNumber() {
        ContinuousRows x = new ContinuousRows(61);
        for (int number = 1; number <= 61; number++) {
            due("step", x.step(), number);
        }
        due("steps behind 61", got(x.step(), x.step()), FULL, FULL);
    }

    static void promise3FullWhenThereIsOneNumberOnly() {
        ContinuousRows x = new ContinuousRows(0);
        due("steps", got(x.step(), x.step()), FULL, FULL);
    }

    static void promise3FullChangesNothing() {
        ContinuousRows x = at(1, 2);
        ask(x, 1, -1, 1, 1);
        x.change(1, 1, 1, true);
        x.step();
        due("latest, rows, age", got(x.latest(), x.rows(0, 1), x.age(1, 1, 1, 1), x.rows(0, 2)), 1, 1, 0, BAD);
        due("what comes then comes at 1", got(x.change(2, 1, 1, true), x.age(1, 2, 1, 1)), 1, 0);
    }

    static void promise3NothingComesOrGoesWithIt() {
        ContinuousRows x = new ContinuousRows(2);
        x.change(1, 1, 1, true);
        x.step();
        due("there still, and older", got(x.there(1, 1, 1, 1), x.age(1, 1, 1, 1), x.there(1, 2, 1, 1)), 1, 1, 0);
    }
}
