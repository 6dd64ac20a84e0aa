public final class Promise15LatestTest extends Tests {
    public static void main(String[] args) {
        run(Promise15LatestTest.class);
    }

    static void promise15ZeroAtFirst() {
        due("of new objects", got(new ContinuousRows(0).latest(), new ContinuousRows(61).latest()), 0, 0);
    }

    static void promise15AfterEachStep() {
        ContinuousRows x = new ContinuousRows(61);
        for (int number = 1; number <= 61; number++) {
            x.step();
            due("latest", got(x.latest(), x.latest()), number, number);
        }
    }

    static void promise15TheLastNumberWhenThereIsNoNext() {
        ContinuousRows x = at(3, 4);
        x.step();
        x.step();
        due("latest", x.latest(), 3);
        ContinuousRows y = new ContinuousRows(0);
        y.step();
        due("of one number", y.latest(), 0);
    }

    static void promise15OtherCallsLeaveIt() {
        ContinuousRows x = at(3, 10);
        x.change(1, 1, 1, true);
        x.late(0, 1, 1, 1, true);
        ask(x, 2, -1, 1, 1);
        x.window(0, 3);
        x.rows(0, 1);
        x.rows(0, 7);
        x.changed(0, 2, true);
        x.row(0, 0, 0, 0);
        x.aggregate(0, 1, 0, 1);
        x.still(0);
        x.there(1, 1, 1, 1);
        x.age(9, 1, 1, 1);
        due("latest", x.latest(), 3);
    }
}
