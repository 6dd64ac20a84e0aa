/** The sentences of "Terms" that name a boundary case. */
public final class TermsTest extends Tests {
    public static void main(String[] args) {
        run(TermsTest.class);
    }

    static void termsNumbersFirstIsZeroAndLastIsNumbersLessOne() {
        for (int numbers = 1; numbers <= 62; numbers++) {
            ContinuousRows x = new ContinuousRows(numbers - 1);
            due("the first of " + numbers, x.latest(), 0);
            for (int number = 1; number < numbers; number++) {
                due("one after the other", got(x.step(), x.latest()), number, number);
            }
            due("behind the last of " + numbers, got(x.step(), x.latest()), FULL, numbers - 1);
        }
    }

    static void termsTriplesAtTheEdges() {
        int[][] triples = {{0, 0, 0}, {15, 0, 0}, {0, 7, 0}, {0, 0, 15}, {15, 7, 0}, {15, 0, 15}, {0, 7, 15}, {15, 7, 15}};
        ContinuousRows x = new ContinuousRows(0);
        for (int[] t : triples) {
            due("a triple at the edge", got(x.there(0, t[0], t[1], t[2]), x.change(t[0], t[1], t[2], true),
                    x.there(0, t[0], t[1], t[2])), 0, 1, 1);
        }
    }

    static void termsTriplesBeyondTheEdges() {
        ContinuousRows x = new ContinuousRows(0);
        for (int[] t : NO_TRIPLES) {
            due("no triple", x.change(t[0], t[1], t[2], true), BAD);
        }
        due("p is 0 .. 7 and not 0 .. 15", x.change(15, 15, 15, true), BAD);
    }

    static void termsAll2048TriplesAreDifferent() {
        ContinuousRows x = null;
        for (int triple = 0; triple < 2048; triple++) {
            if (triple % 256 == 0) {
                x = new ContinuousRows(0);
            }
            int s = triple % 16;
            int p = triple / 256;
            int o = triple / 16 % 16;
            due("nothing was said of it", x.there(0, s, p, o), 0);
            due("it comes", x.change(s, p, o, true), 1);
        }
    }

    static void termsComeAndGoAtOneNumberInTheirOrder() {
        ContinuousRows x = new ContinuousRows(3);
        x.change(1, 1, 1, true);
        x.change(1, 1, 1, false);
        x.change(2, 1, 1, false);
        x.change(2, 1, 1, true);
        due("came, then went", x.there(0, 1, 1, 1), 0);
        due("went, then came", x.there(0, 2, 1, 1), 1);
    }

    static void termsSaidLaterIsBehindWhatWasSaidBefore() {
        ContinuousRows x = new ContinuousRows(3);
        x.change(1, 1, 1, true);
        x.change(2, 1, 1, false);
        x.step();
        x.late(0, 1, 1, 1, false);
        x.late(0, 2, 1, 1, true);
        due("came, then went late", got(x.there(0, 1, 1, 1), x.there(1, 1, 1, 1)), 0, 0);
        due("went, then came late", got(x.there(0, 2, 1, 1), x.there(1, 2, 1, 1)), 1, 1);
        x.late(0, 1, 1, 1, true);
        x.late(0, 2, 1, 1, false);
        due("and later still", got(x.there(0, 1, 1, 1), x.there(0, 2, 1, 1)), 1, 0);
    }

    static void termsSaidLaterAtAnEarlierNumberIsNotTheLastThing() {
        ContinuousRows x = at(2, 5);
        x.change(1, 1, 1, false);
        x.late(1, 1, 1, 1, true);
        due("there at 1, gone at 2", got(x.there(1, 1, 1, 1), x.there(2, 1, 1, 1)), 1, 0);
    }

    static void termsThereWhenNothingWasSaid() {
        due("nothing was said", at(2, 5).there(2, 1, 1, 1), 0);
    }

    static void termsThereAtThatOrALaterNumberNotBefore() {
        ContinuousRows x = at(2, 5);
        x.change(1, 1, 1, true);
        stepTo(x, 4);
        due("before, at it, behind it", got(x.there(1, 1, 1, 1), x.there(2, 1, 1, 1), x.there(3, 1, 1, 1),
                x.there(4, 1, 1, 1)), 0, 1, 1, 1);
    }

    static void termsAgeIsZeroAtItsOwnNumberAnd61AtMost() {
        ContinuousRows x = new ContinuousRows(61);
        x.change(1, 1, 1, true);
        due("at its number", x.age(0, 1, 1, 1), 0);
        stepTo(x, 61);
        due("at the last number", x.age(61, 1, 1, 1), 61);
    }

    static void termsAgeCountsFromTheLastThingThatWasSaid() {
        ContinuousRows x = new ContinuousRows(9);
        x.change(1, 1, 1, true);
        stepTo(x, 3);
        x.change(1, 1, 1, true);
        stepTo(x, 5);
        due("it came again while it was there", got(x.age(2, 1, 1, 1), x.age(3, 1, 1, 1), x.age(5, 1, 1, 1)), 2, 0, 2);
    }

    static void termsQuestionsAreTwelveAtMostAndNumberedFromZero() {
        ContinuousRows x = new ContinuousRows(0);
        for (int question = 0; question < 12; question++) {
            due("question", x.question(0), question);
        }
        due("question 12", x.question(0), FULL);
        due("the first, the last, the one behind", got(x.rows(0, 0), x.rows(11, 0), x.rows(12, 0)), 1, 1, BAD);
    }

    static void termsWindowsAre0To62() {
        ContinuousRows x = new ContinuousRows(0);
        due("too small, the least, the greatest, too large",
                got(x.question(-1), x.question(0), x.question(62), x.question(63)), BAD, 0, 1, BAD);
    }

    static void termsPatternsAreThreeAtMost() {
        ContinuousRows x = new ContinuousRows(0);
        x.question(0);
        due("patterns", got(x.pattern(0, -1, -1, -1), x.pattern(0, -1, -1, -1), x.pattern(0, -1, -1, -1),
                x.pattern(0, -1, -1, -1)), 1, 2, 3, FULL);
    }

    static void termsItemsAtTheEdges() {
        int[][] patterns = {{0, 0, 0}, {15, 7, 15}, {-1, -1, -1}, {-4, -4, -4}};
        for (int[] edge : patterns) {
            for (int position = 0; position < 3; position++) {
                int[] items = {1, 1, 1};
                items[position] = edge[position];
                ContinuousRows x = new ContinuousRows(0);
                x.question(0);
                due("an item at the edge", x.pattern(0, items[0], items[1], items[2]), 1);
            }
        }
    }

    static void termsItemsBeyondTheEdges() {
        ContinuousRows x = new ContinuousRows(0);
        x.question(0);
        due("s", got(x.pattern(0, -5, 0, 0), x.pattern(0, 16, 0, 0)), BAD, BAD);
        due("p", got(x.pattern(0, 0, -5, 0), x.pattern(0, 0, 8, 0)), BAD, BAD);
        due("o", got(x.pattern(0, 0, 0, -5), x.pattern(0, 0, 0, 16)), BAD, BAD);
    }

    static void termsSeenOfAnyAgeWhenTheWindowIsZero() {
        ContinuousRows x = new ContinuousRows(61);
        ask(x, 0, -1, 1, 1);
        x.change(5, 1, 1, true);
        stepTo(x, 61);
        due("age 0, 1, 61", got(x.rows(0, 0), x.rows(0, 1), x.rows(0, 61)), 1, 1, 1);
    }

    static void termsSeenWhenTheAgeIsLessThanTheWindow() {
        for (int window = 1; window <= 61; window++) {
            ContinuousRows x = new ContinuousRows(61);
            ask(x, window, -1, 1, 1);
            x.change(5, 1, 1, true);
            stepTo(x, 61);
            due("window " + window + ": younger, as old", got(x.rows(0, window - 1), x.rows(0, window)), 1, 0);
        }
    }

    static void termsSeenThroughTheWindow62AtEveryNumber() {
        ContinuousRows x = new ContinuousRows(61);
        ask(x, 62, -1, 1, 1);
        x.change(5, 1, 1, true);
        stepTo(x, 61);
        due("age 0, 60, 61", got(x.rows(0, 0), x.rows(0, 60), x.rows(0, 61)), 1, 1, 1);
    }

    static void termsNotSeenWhenItIsNotThere() {
        ContinuousRows x = new ContinuousRows(9);
        ask(x, 0, -1, 1, 1);
        ask(x, 5, -1, 1, 1);
        x.change(5, 1, 1, true);
        x.step();
        x.change(5, 1, 1, false);
        x.step();
        due("gone, however young that is", got(x.rows(0, 1), x.rows(1, 1), x.rows(0, 2), x.rows(1, 2)), 0, 0, 0, 0);
    }

    static void termsSeenAgainWhenItComesAgain() {
        ContinuousRows x = new ContinuousRows(9);
        ask(x, 2, -1, 1, 1);
        x.change(5, 1, 1, true);
        stepTo(x, 3);
        x.change(5, 1, 1, true);
        stepTo(x, 5);
        due("too old, young again, too old", got(x.rows(0, 2), x.rows(0, 3), x.rows(0, 4), x.rows(0, 5)), 0, 1, 1, 0);
    }

    static void termsRowVariablesThatDoNotStandAreZero() {
        ContinuousRows x = new ContinuousRows(0);
        x.change(15, 7, 15, true);
        due("-1 alone", keys(x, ask(x, 0, -1, 7, 15), 0, 0), key(15, 0, 0, 0));
        due("-2 alone", keys(x, ask(x, 0, 15, -2, 15), 0, 0), key(0, 7, 0, 0));
        due("-3 alone", keys(x, ask(x, 0, 15, 7, -3), 0, 0), key(0, 0, 15, 0));
        due("-4 alone", keys(x, ask(x, 0, -4, 7, 15), 0, 0), key(0, 0, 0, 15));
        due("none", keys(x, ask(x, 0, 15, 7, 15), 0, 0), 0);
    }

    static void termsRowVariableMayBeZero() {
        ContinuousRows x = new ContinuousRows(0);
        x.change(0, 0, 0, true);
        due("all are 0", keys(x, ask(x, 0, -1, -2, -3, -4, 0, 0), 0, 0), 0);
        due("0 in one place is not 0 in another", keys(x, ask(x, 0, -1, 1, 0), 0, 0));
    }

    static void termsRowNeedsAllPatterns() {
        ContinuousRows x = new ContinuousRows(0);
        x.change(1, 0, 2, true);
        x.change(2, 0, 3, true);
        due("two that are seen", keys(x, ask(x, 0, -1, 0, -2, -2, 0, -3), 0, 0), key(1, 2, 3, 0));
        due("the first is not", keys(x, ask(x, 0, 9, 0, 9, -1, 0, -2), 0, 0));
        due("the last is not", keys(x, ask(x, 0, -1, 0, -2, 1, 0, 2, 9, 0, 9), 0, 0));
        due("the one in the middle is not", keys(x, ask(x, 0, -1, 0, -2, 9, 0, 9, 1, 0, 2), 0, 0));
    }

    static void termsRowNeedsItsPatternsTogether() {
        ContinuousRows x = new ContinuousRows(0);
        x.change(1, 0, 2, true);
        x.change(3, 0, 4, true);
        x.change(1, 1, 2, true);
        x.change(3, 1, 4, true);
        x.change(1, 2, 4, true);
        x.change(3, 2, 2, true);
        due("each fits for itself, two together", keys(x, ask(x, 0, -1, 0, -2, -1, 1, -2), 0, 0),
                key(1, 2, 0, 0), key(3, 4, 0, 0));
        due("the third does not fit the others", keys(x, ask(x, 0, -1, 0, -2, -1, 1, -2, -1, 2, -2), 0, 0));
        due("the first does not fit the others", keys(x, ask(x, 0, -1, 2, -2, -1, 1, -2, -1, 0, -2), 0, 0));
        due("the second does not fit the others", keys(x, ask(x, 0, -4, 0, -3, -4, 2, -3, -4, 1, -3), 0, 0));
    }

    static void termsRowOneVariableInManyPlaces() {
        ContinuousRows x = new ContinuousRows(0);
        x.change(3, 3, 3, true);
        x.change(3, 5, 3, true);
        x.change(3, 3, 9, true);
        x.change(9, 3, 3, true);
        due("s, p and o", keys(x, ask(x, 0, -2, -2, -2), 0, 0), key(0, 3, 0, 0));
        due("s and o", keys(x, ask(x, 0, -1, -4, -1), 0, 0), key(3, 0, 0, 3), key(3, 0, 0, 5));
        due("s and p", keys(x, ask(x, 0, -3, -3, -4), 0, 0), key(0, 0, 3, 3), key(0, 0, 3, 9));
        due("p and o", keys(x, ask(x, 0, -4, -1, -1), 0, 0), key(3, 0, 0, 3), key(3, 0, 0, 9));
        due("two patterns", keys(x, ask(x, 0, -1, 3, 9, -1, 5, -2), 0, 0), key(3, 3, 0, 0));
    }

    static void termsRowVariableBeyond7IsNoP() {
        ContinuousRows x = new ContinuousRows(0);
        x.change(1, 0, 7, true);
        x.change(1, 0, 8, true);
        x.change(1, 0, 15, true);
        x.change(2, 7, 4, true);
        x.change(3, 0, 4, true);
        due("7 is a p, 8 and 15 are none", keys(x, ask(x, 0, 1, 0, -1, -2, -1, 4), 0, 0), key(7, 2, 0, 0));
        due("p behind the others", keys(x, ask(x, 0, 1, 0, -4, -2, -4, 4), 0, 0), key(0, 2, 0, 7));
        due("p alone", keys(x, ask(x, 0, 1, 0, -3, -3, -3, -3), 0, 0));
    }

    static void termsKeyWeightsOfTheVariables() {
        ContinuousRows x = new ContinuousRows(0);
        x.change(1, 0, 2, true);
        x.change(3, 1, 4, true);
        due("1, 2, 3, 4", keys(x, ask(x, 0, -1, 0, -2, -3, 1, -4), 0, 0), 4096 + 2 * 256 + 3 * 16 + 4);
        due("the other way round", keys(x, ask(x, 0, -4, 0, -3, -2, 1, -1), 0, 0), 4 * 4096 + 3 * 256 + 2 * 16 + 1);
    }

    static void termsKeyLeastAndGreatest() {
        ContinuousRows x = new ContinuousRows(0);
        x.change(15, 0, 15, true);
        due("all are 15", keys(x, ask(x, 0, -1, 0, -2, -3, 0, -4), 0, 0), 65535);
        ContinuousRows y = new ContinuousRows(0);
        y.change(0, 0, 0, true);
        due("all are 0", keys(y, ask(y, 0, -1, 0, -2, -3, 0, -4), 0, 0), 0);
    }

    static void termsQuestionWithoutPatternsHasTheOneRowZero() {
        ContinuousRows x = new ContinuousRows(9);
        ask(x, 0);
        ask(x, 1);
        due("when nothing is there", keys(x, 0, 0, 0), 0);
        x.change(5, 5, 5, true);
        stepTo(x, 3);
        due("at each number", got(x.rows(0, 0), x.rows(0, 1), x.rows(0, 3)), 1, 1, 1);
        due("through a window", got(x.rows(1, 0), x.rows(1, 1), x.rows(1, 3)), 1, 1, 1);
        due("the key", keys(x, 1, 3, 0), 0);
    }

    static void termsRowsAreDifferentKeys() {
        ContinuousRows x = new ContinuousRows(0);
        x.change(1, 0, 2, true);
        x.change(1, 0, 2, true);
        due("said twice", keys(x, ask(x, 0, -1, 0, -2), 0, 0), key(1, 2, 0, 0));
        due("a pattern thrice", keys(x, ask(x, 0, -1, 0, -2, -1, 0, -2, -1, 0, -2), 0, 0), key(1, 2, 0, 0));
        x.change(1, 1, 2, true);
        x.change(1, 2, 2, true);
        due("so many as there are keys", x.rows(ask(x, 0, 1, -1, 2, 1, -1, 2), 0), 3);
    }

    static void termsCameWithZeroAreAllRows() {
        ContinuousRows x = new ContinuousRows(5);
        ask(x, 0, -1, 0, 0);
        x.change(3, 0, 0, true);
        x.change(4, 0, 0, true);
        x.step();
        due("came with 0", keys(x, 0, 0, 1), key(3, 0, 0, 0), key(4, 0, 0, 0));
        due("went with 0", keys(x, 0, 0, 2));
        due("with 1 none came", x.changed(0, 1, true), 0);
        due("with 0 all the same", got(x.changed(0, 0, true), x.changed(0, 0, false)), 2, 0);
    }

    static void termsCameAndWentAgainstTheNumberBefore() {
        ContinuousRows x = new ContinuousRows(5);
        ask(x, 0, -1, 0, 0);
        x.change(3, 0, 0, true);
        x.change(4, 0, 0, true);
        x.step();
        x.change(3, 0, 0, false);
        x.change(5, 0, 0, true);
        x.step();
        due("came with 1", keys(x, 0, 1, 1), key(5, 0, 0, 0));
        due("went with 1", keys(x, 0, 1, 2), key(3, 0, 0, 0));
        due("with 2 none", got(x.changed(0, 2, true), x.changed(0, 2, false)), 0, 0);
    }

    static void termsCameAndWentBesideRowsThatStay() {
        ContinuousRows x = new ContinuousRows(5);
        ask(x, 0, 1, 0, -4);
        x.change(1, 0, 3, true);
        x.change(1, 0, 5, true);
        x.step();
        x.change(1, 0, 5, false);
        x.change(1, 0, 4, true);
        due("has at 1", keys(x, 0, 1, 0), 3, 4);
        due("came with 1", keys(x, 0, 1, 1), 4);
        due("went with 1", keys(x, 0, 1, 2), 5);
    }

    static void termsGoneAndBackAtOneNumberNeitherCameNorWent() {
        ContinuousRows x = new ContinuousRows(5);
        ask(x, 0, -1, 0, 0);
        x.change(3, 0, 0, true);
        x.step();
        x.change(3, 0, 0, false);
        x.change(3, 0, 0, true);
        x.change(4, 0, 0, true);
        x.change(4, 0, 0, false);
        due("with 1", got(x.changed(0, 1, true), x.changed(0, 1, false)), 0, 0);
    }

    static void termsRowsGoWhenTheirTriplesGrowTooOld() {
        ContinuousRows x = new ContinuousRows(5);
        ask(x, 2, -1, 0, 0);
        x.change(3, 0, 0, true);
        stepTo(x, 3);
        due("went with 1, 2, 3", got(x.changed(0, 1, false), x.changed(0, 2, false), x.changed(0, 3, false)), 0, 1, 0);
    }
}
