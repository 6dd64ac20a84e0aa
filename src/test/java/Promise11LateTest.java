public final class Promise11LateTest extends Tests {
    public static void main(String[] args) {
        run(Promise11LateTest.class);
    }

    static void promise11ComesAtANumberThatWasBefore() {
        ContinuousRows x = at(5, 10);
        x.late(2, 1, 1, 1, true);
        due("there at 1, 2, 5", got(x.there(1, 1, 1, 1), x.there(2, 1, 1, 1), x.there(5, 1, 1, 1)), 0, 1, 1);
        due("its age", got(x.age(2, 1, 1, 1), x.age(5, 1, 1, 1)), 0, 3);
    }

    static void promise11GoesAtANumberThatWasBefore() {
        ContinuousRows x = new ContinuousRows(9);
        x.change(1, 1, 1, true);
        stepTo(x, 5);
        x.late(2, 1, 1, 1, false);
        due("there at 1, 2, 5", got(x.there(1, 1, 1, 1), x.there(2, 1, 1, 1), x.there(5, 1, 1, 1)), 1, 0, 0);
    }

    static void promise11BehindAllThatWasSaidThere() {
        ContinuousRows x = at(1, 10);
        x.change(1, 1, 1, true);
        x.change(1, 1, 1, false);
        x.change(2, 1, 1, true);
        x.step();
        x.late(1, 1, 1, 1, true);
        x.late(1, 2, 1, 1, false);
        due("as said late", got(x.there(1, 1, 1, 1), x.there(1, 2, 1, 1)), 1, 0);
        x.late(1, 1, 1, 1, false);
        x.late(1, 2, 1, 1, true);
        due("behind what was said late", got(x.there(1, 1, 1, 1), x.there(1, 2, 1, 1)), 0, 1);
    }

    static void promise11BeforeWhatWasSaidAtLaterNumbers() {
        ContinuousRows x = at(3, 10);
        ask(x, 0, -1, 1, 1);
        x.change(1, 1, 1, false);
        due("comes at 1, had gone at 3", x.late(1, 1, 1, 1, true), 2);
        due("there at 0 .. 3", got(x.there(0, 1, 1, 1), x.there(1, 1, 1, 1), x.there(2, 1, 1, 1), x.there(3, 1, 1, 1)),
                0, 1, 1, 0);
    }

    static void promise11HowManyNumbersUpToTheLatest() {
        ContinuousRows x = at(5, 10);
        ask(x, 0, -1, 0, -2, -2, 0, -1);
        due("it makes no row", x.late(1, 1, 0, 2, true), 0);
        due("it makes rows at 3, 4, 5", x.late(3, 2, 0, 1, true), 3);
        due("the rows", keys(x, 0, 3, 1), key(1, 2, 0, 0), key(2, 1, 0, 0));
        due("it goes at 4", x.late(4, 1, 0, 2, false), 2);
        due("it comes at 4 after all", x.late(4, 1, 0, 2, true), 2);
        due("it goes at 3, and comes at 4", x.late(3, 1, 0, 2, false), 1);
        due("the other one comes at 0", x.late(0, 2, 0, 1, true), 2);
        due("at 0 .. 5", got(x.rows(0, 0), x.rows(0, 1), x.rows(0, 2), x.rows(0, 3), x.rows(0, 4), x.rows(0, 5)),
                0, 2, 2, 0, 2, 2);
    }

    static void promise11AllNumbersWhenItComesAtZero() {
        ContinuousRows x = at(61, 62);
        ask(x, 0, -1, 1, 1);
        due("0 .. 61", x.late(0, 1, 1, 1, true), 62);
        ContinuousRows y = at(4, 62);
        ask(y, 0, -1, 1, 1);
        due("0 .. 4, and none behind the latest", y.late(0, 1, 1, 1, true), 5);
    }

    static void promise11ZeroWhenItIsThereAlready() {
        ContinuousRows x = new ContinuousRows(9);
        ask(x, 0, -1, 1, 1);
        x.change(1, 1, 1, true);
        stepTo(x, 4);
        due("it comes again", x.late(2, 1, 1, 1, true), 0);
        due("another goes that was not there", x.late(2, 2, 1, 1, false), 0);
    }

    static void promise11ZeroIsSaidAllTheSame() {
        ContinuousRows x = new ContinuousRows(9);
        x.change(1, 1, 1, true);
        stepTo(x, 4);
        x.late(2, 1, 1, 1, true);
        due("its age begins again", got(x.age(1, 1, 1, 1), x.age(2, 1, 1, 1), x.age(4, 1, 1, 1)), 1, 0, 2);
    }

    static void promise11ZeroWhenNoQuestionAsksForIt() {
        ContinuousRows x = at(3, 10);
        due("no question", x.late(1, 1, 1, 1, true), 0);
        x.question(0);
        due("a question without patterns", x.late(1, 2, 1, 1, true), 0);
        ask(x, 0, -1, 2, -2);
        due("a question for others", x.late(1, 3, 1, 1, true), 0);
    }

    static void promise11ANumberCountsOnceForSomeQuestions() {
        ContinuousRows x = at(6, 10);
        ask(x, 2, 1, 0, -1);
        ask(x, 3, -1, 0, 1);
        ask(x, 2, 1, 0, -1);
        due("1, 2 for all, 3 for one", x.late(1, 1, 0, 1, true), 3);
    }

    static void promise11TheLastOfTwelveQuestionsCounts() {
        ContinuousRows x = at(3, 10);
        for (int i = 0; i < 11; i++) {
            ask(x, 0, -1, 2, -2);
        }
        ask(x, 0, -1, 1, -2);
        due("numbers 1, 2, 3", x.late(1, 1, 1, 1, true), 3);
    }

    static void promise11WindowsCount() {
        ContinuousRows x = at(6, 10);
        ask(x, 2, 1, 0, -1);
        due("seen at 1, 2", x.late(1, 1, 0, 1, true), 2);
        due("younger: seen at 3 too", x.late(2, 1, 0, 1, true), 1);
        due("as old as before", x.late(2, 1, 0, 1, true), 0);
        due("older than what follows: seen at 0 too", x.late(0, 1, 0, 1, true), 1);
        due("seen at 0 .. 3 and at 5, 6", x.late(5, 1, 0, 1, true), 2);
        due("at the window's end", got(x.rows(0, 3), x.rows(0, 4), x.rows(0, 5), x.rows(0, 6)), 1, 0, 1, 1);
    }

    static void promise11TheWindowThatIsNowCounts() {
        ContinuousRows x = at(6, 10);
        ask(x, 1, 1, 0, -1);
        x.window(0, 3);
        due("seen at 2, 3, 4", x.late(2, 1, 0, 1, true), 3);
        x.window(0, 0);
        due("seen at 0, 1", x.late(0, 1, 0, 1, true), 2);
    }

    static void promise11ThroughAnyOfThePatterns() {
        ContinuousRows x = at(2, 10);
        x.change(1, 0, 2, true);
        x.change(2, 1, 3, true);
        x.change(3, 2, 4, true);
        ask(x, 0, -1, 0, -2, -2, 1, -3, -3, 2, -4);
        due("the first makes a row at 2, where the others are seen", x.late(1, 9, 0, 2, true), 1);
        due("the second makes none at 1", x.late(1, 2, 1, 3, true), 0);
        due("the third makes rows at 1 and 2", x.late(1, 3, 2, 5, true), 2);
        due("the rows at 1", keys(x, 0, 1, 0), key(9, 2, 3, 5));
        due("the second goes at 1", x.late(1, 2, 1, 3, false), 1);
    }

    static void promise11OneTripleForTwoPatterns() {
        ContinuousRows x = at(2, 10);
        ask(x, 0, -1, 0, -2, -2, 0, -1);
        due("it is both", x.late(1, 4, 0, 4, true), 2);
        due("the row", keys(x, 0, 1, 0), key(4, 4, 0, 0));
    }

    static void promise11TheNumberBelowTheLatest() {
        ContinuousRows x = at(3, 10);
        ask(x, 0, -1, -2, -3);
        due("2", x.late(2, 0, 0, 0, true), 2);
        due("0", x.late(0, 0, 0, 1, true), 4);
    }

    static void promise11BadWhenTheNumberIsNotBelowTheLatest() {
        ContinuousRows x = at(3, 10);
        due("3, 4, 9, 10, far away", got(x.late(3, 0, 0, 0, true), x.late(4, 0, 0, 0, true), x.late(9, 0, 0, 0, true),
                x.late(10, 0, 0, 0, true), x.late(GREATEST_INT, 0, 0, 0, true)), BAD, BAD, BAD, BAD, BAD);
    }

    static void promise11BadWhenTheNumberIsBelowZero() {
        ContinuousRows x = at(3, 10);
        due("-1, far away", got(x.late(-1, 0, 0, 0, true), x.late(LEAST_INT, 0, 0, 0, false)), BAD, BAD);
    }

    static void promise11BadAtTheFirstNumber() {
        ContinuousRows x = new ContinuousRows(9);
        due("there is none before", got(x.late(0, 0, 0, 0, true), x.late(-1, 0, 0, 0, true)), BAD, BAD);
        x.step();
        due("there is one", x.late(0, 0, 0, 0, true), 0);
    }

    static void promise11BadWhenItIsNoTriple() {
        ContinuousRows x = at(3, 10);
        for (int[] t : NO_TRIPLES) {
            due("comes, goes", got(x.late(1, t[0], t[1], t[2], true), x.late(1, t[0], t[1], t[2], false)), BAD, BAD);
        }
        due("at the edges", got(x.late(1, 0, 0, 0, true), x.late(1, 15, 7, 15, true)), 0, 0);
    }

    static void promise11BadSaysNothing() {
        ContinuousRows x = at(3, 10);
        ask(x, 0, -1, -2, -3);
        x.late(3, 0, 0, 0, true);
        x.late(4, 0, 0, 1, true);
        x.late(-1, 0, 0, 2, true);
        x.late(1, 0, 0, 16, true);
        x.late(1, 0, 8, 0, true);
        stepTo(x, 5);
        due("rows", got(x.rows(0, 0), x.rows(0, 1), x.rows(0, 3), x.rows(0, 5)), 0, 0, 0, 0);
    }

    static void promise11BadIsNotCountedAmongThe400() {
        ContinuousRows x = at(1, 10);
        for (int i = 0; i < 50; i++) {
            x.late(1, 0, 0, 0, true);
            x.late(0, 16, 0, 0, true);
        }
        say(x, 399);
        due("things 400 and 401", got(x.late(0, 0, 0, 0, true), x.late(0, 0, 0, 1, true)), 0, FULL);
    }

    static void promise11FullBehind400Things() {
        ContinuousRows x = at(1, 10);
        for (int i = 0; i < 400; i++) {
            due("late", x.late(0, i % 16, i / 16 % 8, i / 128, true), 0);
        }
        due("things 401 and 402", got(x.late(0, 15, 7, 15, true), x.late(0, 0, 0, 0, false)), FULL, FULL);
    }

    static void promise11FullOfChangesToo() {
        ContinuousRows x = new ContinuousRows(9);
        say(x, 400);
        x.step();
        due("thing 401", x.late(0, 0, 0, 0, true), FULL);
    }

    static void promise11FullSaysNothing() {
        ContinuousRows x = at(1, 10);
        say(x, 400);
        x.late(0, 15, 7, 15, true);
        x.late(0, 0, 0, 0, true);
        due("not there", got(x.there(0, 15, 7, 15), x.there(0, 0, 0, 0), x.there(1, 0, 0, 0)), 0, 0, 0);
    }

    static void promise11BadGoesBeforeFull() {
        ContinuousRows x = at(1, 10);
        say(x, 400);
        due("no triple, no number", got(x.late(0, 16, 0, 0, true), x.late(1, 0, 0, 0, true)), BAD, BAD);
    }
}
