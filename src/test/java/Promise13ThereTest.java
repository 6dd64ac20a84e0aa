public final class Promise13ThereTest extends Tests {
    public static void main(String[] args) {
        run(Promise13ThereTest.class);
    }

    static void promise13OneOrZero() {
        ContinuousRows x = at(1, 10);
        x.change(4, 4, 4, true);
        stepTo(x, 3);
        x.change(4, 4, 4, false);
        x.step();
        due("at 0 .. 4", got(x.there(0, 4, 4, 4), x.there(1, 4, 4, 4), x.there(2, 4, 4, 4), x.there(3, 4, 4, 4),
                x.there(4, 4, 4, 4)), 0, 1, 1, 0, 0);
    }

    static void promise13WindowsDoNotMatter() {
        ContinuousRows x = new ContinuousRows(9);
        ask(x, 1, 4, 4, 4);
        x.change(4, 4, 4, true);
        stepTo(x, 5);
        due("not seen, but there", got(x.rows(0, 5), x.there(5, 4, 4, 4)), 0, 1);
    }

    static void promise13OtherTriplesAreNot() {
        ContinuousRows x = new ContinuousRows(9);
        x.change(4, 4, 4, true);
        due("beside it", got(x.there(0, 3, 4, 4), x.there(0, 5, 4, 4), x.there(0, 4, 3, 4), x.there(0, 4, 5, 4),
                x.there(0, 4, 4, 3), x.there(0, 4, 4, 5)), 0, 0, 0, 0, 0, 0);
    }

    static void promise13TriplesAtTheEdges() {
        ContinuousRows x = new ContinuousRows(9);
        x.change(15, 7, 15, true);
        due("edges", got(x.there(0, 0, 0, 0), x.there(0, 15, 7, 15), x.there(0, 15, 0, 0), x.there(0, 0, 7, 0),
                x.there(0, 0, 0, 15)), 0, 1, 0, 0, 0);
    }

    static void promise13TheFirstAndTheLatestNumber() {
        ContinuousRows x = new ContinuousRows(61);
        x.change(1, 1, 1, true);
        stepTo(x, 61);
        due("at 0 and 61", got(x.there(0, 1, 1, 1), x.there(61, 1, 1, 1)), 1, 1);
    }

    static void promise13BadBehindTheLatest() {
        ContinuousRows x = new ContinuousRows(9);
        x.change(1, 1, 1, true);
        stepTo(x, 3);
        due("3, 4, 9, 10, far away", got(x.there(3, 1, 1, 1), x.there(4, 1, 1, 1), x.there(9, 1, 1, 1),
                x.there(10, 1, 1, 1), x.there(GREATEST_INT, 1, 1, 1)), 1, BAD, BAD, BAD, BAD);
    }

    static void promise13BadBelowZero() {
        ContinuousRows x = at(3, 10);
        due("-1, far away", got(x.there(-1, 1, 1, 1), x.there(LEAST_INT, 1, 1, 1)), BAD, BAD);
    }

    static void promise13BadWhenItIsNoTriple() {
        ContinuousRows x = at(3, 10);
        for (int[] t : NO_TRIPLES) {
            due("no triple", got(x.there(0, t[0], t[1], t[2]), x.there(3, t[0], t[1], t[2])), BAD, BAD);
        }
    }
}
