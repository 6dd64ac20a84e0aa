public final class Promise02ChangeTest extends Tests {
    public static void main(String[] args) {
        run(Promise02ChangeTest.class);
    }

    static void promise2OneWhenItIsThereNowAndWasNot() {
        ContinuousRows x = new ContinuousRows(5);
        due("it comes", got(x.change(1, 2, 3, true), x.there(0, 1, 2, 3)), 1, 1);
        due("another comes", got(x.change(3, 2, 1, true), x.there(0, 3, 2, 1)), 1, 1);
    }

    static void promise2OneTheOtherWayRound() {
        ContinuousRows x = new ContinuousRows(5);
        x.change(1, 2, 3, true);
        due("it goes", got(x.change(1, 2, 3, false), x.there(0, 1, 2, 3)), 1, 0);
        due("it comes again", got(x.change(1, 2, 3, true), x.there(0, 1, 2, 3)), 1, 1);
    }

    static void promise2ZeroWhenItComesAndWasThere() {
        ContinuousRows x = new ContinuousRows(5);
        x.change(1, 2, 3, true);
        due("at the same number", got(x.change(1, 2, 3, true), x.there(0, 1, 2, 3)), 0, 1);
        x.step();
        due("at the next number", got(x.change(1, 2, 3, true), x.there(1, 1, 2, 3)), 0, 1);
    }

    static void promise2ZeroWhenItGoesAndWasNotThere() {
        ContinuousRows x = new ContinuousRows(5);
        due("never said", got(x.change(1, 2, 3, false), x.there(0, 1, 2, 3)), 0, 0);
        due("gone already", got(x.change(1, 2, 3, false), x.there(0, 1, 2, 3)), 0, 0);
    }

    static void promise2ZeroIsSaidAllTheSame() {
        ContinuousRows x = new ContinuousRows(5);
        x.change(1, 2, 3, true);
        stepTo(x, 2);
        x.change(1, 2, 3, true);
        due("its age begins again", x.age(2, 1, 2, 3), 0);
        x.late(0, 1, 2, 3, false);
        due("it came at 2 though it went at 0", got(x.there(1, 1, 2, 3), x.there(2, 1, 2, 3)), 0, 1);
    }

    static void promise2ZeroGoingIsSaidAllTheSame() {
        ContinuousRows x = new ContinuousRows(5);
        stepTo(x, 2);
        x.change(1, 2, 3, false);
        x.late(0, 1, 2, 3, true);
        due("it goes at 2 though it was not there", got(x.there(1, 1, 2, 3), x.there(2, 1, 2, 3)), 1, 0);
    }

    static void promise2AtTheLatestNumberAlone() {
        ContinuousRows x = new ContinuousRows(5);
        stepTo(x, 2);
        x.change(1, 2, 3, true);
        stepTo(x, 4);
        x.change(1, 2, 3, false);
        due("at 1 .. 4", got(x.there(1, 1, 2, 3), x.there(2, 1, 2, 3), x.there(3, 1, 2, 3), x.there(4, 1, 2, 3)),
                0, 1, 1, 0);
    }

    static void promise2TriplesAtTheEdges() {
        ContinuousRows x = new ContinuousRows(5);
        due("edges", got(x.change(0, 0, 0, true), x.change(15, 7, 15, true), x.change(15, 0, 0, true),
                x.change(0, 7, 0, true), x.change(0, 0, 15, true)), 1, 1, 1, 1, 1);
    }

    static void promise2BadWhenItIsNoTriple() {
        ContinuousRows x = new ContinuousRows(5);
        for (int[] t : NO_TRIPLES) {
            due("no triple comes or goes", got(x.change(t[0], t[1], t[2], true), x.change(t[0], t[1], t[2], false)),
                    BAD, BAD);
        }
    }

    static void promise2BadSaysNothing() {
        ContinuousRows x = new ContinuousRows(5);
        ask(x, 0, -1, -2, -3);
        x.change(1, 0, 15, true);
        x.change(1, 0, 16, true);
        x.change(1, 0, 31, true);
        x.change(1, 8, 0, true);
        x.change(1, 1, -1, false);
        due("rows", keys(x, 0, 0, 0), key(1, 0, 15, 0));
    }

    static void promise2BadIsNotCountedAmongThe400() {
        ContinuousRows x = new ContinuousRows(5);
        for (int i = 0; i < 100; i++) {
            x.change(1, 1, 16, true);
        }
        say(x, 400);
        due("thing 401", x.change(1, 1, 1, true), FULL);
    }

    static void promise2FullBehind400Things() {
        ContinuousRows x = new ContinuousRows(5);
        say(x, 399);
        due("things 400, 401, 402", got(x.change(1, 1, 1, true), x.change(2, 1, 1, true), x.change(15, 7, 15, true)),
                1, FULL, FULL);
    }

    static void promise2FullOfThingsThatChangedNothing() {
        ContinuousRows x = new ContinuousRows(5);
        for (int i = 0; i < 400; i++) {
            due("it goes, and was not there", x.change(1, 1, 1, false), 0);
        }
        due("thing 401", got(x.change(1, 1, 1, false), x.change(1, 1, 1, true)), FULL, FULL);
    }

    static void promise2FullOfLateThingsToo() {
        ContinuousRows x = at(1, 2);
        for (int i = 0; i < 200; i++) {
            due("late", x.late(0, 1, 1, 1, i % 2 == 0), 0);
        }
        say(x, 200);
        due("thing 401", x.change(1, 1, 1, true), FULL);
    }

    static void promise2FullSaysNothing() {
        ContinuousRows x = new ContinuousRows(5);
        say(x, 400);
        x.change(1, 1, 1, true);
        x.change(15, 7, 15, true);
        due("not there", got(x.there(0, 1, 1, 1), x.there(0, 15, 7, 15)), 0, 0);
    }

    static void promise2FullAtLaterNumbersToo() {
        ContinuousRows x = new ContinuousRows(5);
        say(x, 400);
        x.step();
        due("at the next number", got(x.change(1, 1, 1, true), x.there(1, 1, 1, 1)), FULL, 0);
    }

    static void promise2BadGoesBeforeFull() {
        ContinuousRows x = new ContinuousRows(5);
        say(x, 400);
        due("no triple", x.change(16, 0, 0, true), BAD);
    }
}
