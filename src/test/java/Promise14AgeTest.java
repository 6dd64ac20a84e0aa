public final class Promise14AgeTest extends Tests {
    public static void main(String[] args) {
        run(Promise14AgeTest.class);
    }

    static void promise14ItsAgeThere() {
        ContinuousRows x = at(1, 10);
        x.change(4, 4, 4, true);
        stepTo(x, 5);
        due("at 1, 2, 5", got(x.age(1, 4, 4, 4), x.age(2, 4, 4, 4), x.age(5, 4, 4, 4)), 0, 1, 4);
    }

    static void promise14OfTheLastThingUpToTheNumber() {
        ContinuousRows x = at(1, 10);
        x.change(4, 4, 4, true);
        stepTo(x, 5);
        x.late(3, 4, 4, 4, true);
        due("at 2, 3, 5", got(x.age(2, 4, 4, 4), x.age(3, 4, 4, 4), x.age(5, 4, 4, 4)), 1, 0, 2);
    }

    static void promise14ZeroAnd61() {
        ContinuousRows x = new ContinuousRows(61);
        x.change(15, 7, 15, true);
        stepTo(x, 61);
        x.change(0, 0, 0, true);
        due("edges", got(x.age(0, 15, 7, 15), x.age(61, 15, 7, 15), x.age(61, 0, 0, 0)), 0, 61, 0);
    }

    static void promise14NoWhenNothingWasSaid() {
        ContinuousRows x = at(3, 10);
        due("at 0 and 3", got(x.age(0, 4, 4, 4), x.age(3, 4, 4, 4)), NO, NO);
    }

    static void promise14NoBeforeItCame() {
        ContinuousRows x = at(3, 10);
        x.change(4, 4, 4, true);
        due("at 0, 2, 3", got(x.age(0, 4, 4, 4), x.age(2, 4, 4, 4), x.age(3, 4, 4, 4)), NO, NO, 0);
    }

    static void promise14NoWhenItIsGone() {
        ContinuousRows x = new ContinuousRows(9);
        x.change(4, 4, 4, true);
        stepTo(x, 3);
        x.change(4, 4, 4, false);
        x.step();
        due("at 2, 3, 4", got(x.age(2, 4, 4, 4), x.age(3, 4, 4, 4), x.age(4, 4, 4, 4)), 2, NO, NO);
    }

    static void promise14FromZeroWhenItIsBack() {
        ContinuousRows x = new ContinuousRows(9);
        x.change(4, 4, 4, true);
        stepTo(x, 3);
        x.change(4, 4, 4, false);
        x.change(4, 4, 4, true);
        due("gone and back at 3", got(x.age(2, 4, 4, 4), x.age(3, 4, 4, 4)), 2, 0);
    }

    static void promise14BadBehindTheLatest() {
        ContinuousRows x = new ContinuousRows(9);
        x.change(1, 1, 1, true);
        stepTo(x, 3);
        due("3, 4, 9, 10, far away", got(x.age(3, 1, 1, 1), x.age(4, 1, 1, 1), x.age(9, 1, 1, 1), x.age(10, 1, 1, 1),
                x.age(GREATEST_INT, 1, 1, 1)), 3, BAD, BAD, BAD, BAD);
    }

    static void promise14BadBelowZero() {
        ContinuousRows x = at(3, 10);
        due("-1, far away", got(x.age(-1, 1, 1, 1), x.age(LEAST_INT, 1, 1, 1)), BAD, BAD);
    }

    static void promise14BadWhenItIsNoTriple() {
        ContinuousRows x = at(3, 10);
        for (int[] t : NO_TRIPLES) {
            due("no triple", got(x.age(0, t[0], t[1], t[2]), x.age(3, t[0], t[1], t[2])), BAD, BAD);
        }
    }
}
