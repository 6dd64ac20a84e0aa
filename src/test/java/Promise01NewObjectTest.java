public final class Promise01NewObjectTest extends Tests {
    public static void main(String[] args) {
        run(Promise01NewObjectTest.class);
    }

    private static int countNumbers(int given) {
        ContinuousRows x = new ContinuousRows(given);
        int numbers = 1;
        while (numbers < 100 && x.step() == numbers) {
            numbers++;
        }
        return numbers;
    }

    static void promise1NumbersBelow62() {
        for (int given = 0; given <= 61; given++) {
            due("numbers of " + given, countNumbers(given), given + 1);
        }
    }

    static void promise1NumbersWrapAround() {
        due("62, 63, 123, 124, 125", got(countNumbers(62), countNumbers(63), countNumbers(123), countNumbers(124),
                countNumbers(125)), 1, 2, 62, 1, 2);
    }

    static void promise1WhatIsLeftOfNegativeNumbersIsNotNegative() {
        due("-1, -2, -61, -62, -63, -124", got(countNumbers(-1), countNumbers(-2), countNumbers(-61),
                countNumbers(-62), countNumbers(-63), countNumbers(-124)), 62, 61, 2, 1, 62, 1);
    }

    static void promise1LeastAndGreatestInt() {
        due("the greatest int", countNumbers(GREATEST_INT), 2);
        due("the int below it", countNumbers(GREATEST_INT - 1), 1);
        due("the least int", countNumbers(LEAST_INT), 61);
        due("the int above it", countNumbers(LEAST_INT + 1), 62);
    }

    static void promise1TheLatestIsZero() {
        due("new objects", got(new ContinuousRows(0).latest(), new ContinuousRows(61).latest(),
                new ContinuousRows(-1).latest()), 0, 0, 0);
    }

    static void promise1NothingIsThere() {
        for (int s = 0; s < 16; s++) {
            ContinuousRows x = new ContinuousRows(5);
            for (int i = 0; i < 128; i++) {
                due("there", x.there(0, s, i / 16, i % 16), 0);
                due("age", x.age(0, s, i / 16, i % 16), NO);
            }
            due("rows that anything fits", x.rows(ask(x, 0, -1, -2, -3), 0), 0);
        }
    }

    static void promise1NoQuestions() {
        ContinuousRows x = new ContinuousRows(5);
        due("calls that ask question 0", got(x.pattern(0, 0, 0, 0), x.window(0, 0), x.rows(0, 0), x.changed(0, 0, true),
                x.row(0, 0, 0, 0), x.aggregate(0, 0, 0, 1), x.still(0)), BAD, BAD, BAD, BAD, BAD, BAD, BAD);
        due("the first question", x.question(0), 0);
    }
}
