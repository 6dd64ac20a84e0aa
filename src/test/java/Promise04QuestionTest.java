public final class Promise04QuestionTest extends Tests {
    public static void main(String[] args) {
        run(Promise04QuestionTest.class);
    }

    static void promise4ItsNumberFromZero() {
        ContinuousRows x = new ContinuousRows(2);
        due("questions", got(x.question(0), x.question(5), x.question(62)), 0, 1, 2);
        due("their windows", got(x.window(0, 0), x.window(1, 0), x.window(2, 0)), 0, 5, 62);
    }

    static void promise4WithoutPatterns() {
        ContinuousRows x = new ContinuousRows(2);
        x.change(1, 1, 1, true);
        for (int question = 0; question < 12; question++) {
            x.question(question);
            due("the one row 0", keys(x, question, 0, 0), 0);
            due("its first pattern", x.pattern(question, -1, -1, -1), 1);
        }
    }

    static void promise4EachWindow() {
        for (int window = 0; window <= 62; window++) {
            ContinuousRows x = new ContinuousRows(2);
            due("window " + window, got(x.question(window), x.window(0, 0)), 0, window);
        }
    }

    static void promise4BadForATooSmallWindow() {
        ContinuousRows x = new ContinuousRows(2);
        due("windows", got(x.question(-1), x.question(-62), x.question(LEAST_INT)), BAD, BAD, BAD);
    }

    static void promise4BadForATooLargeWindow() {
        ContinuousRows x = new ContinuousRows(2);
        due("windows", got(x.question(63), x.question(64), x.question(GREATEST_INT)), BAD, BAD, BAD);
    }

    static void promise4BadMakesNoQuestion() {
        ContinuousRows x = new ContinuousRows(2);
        x.question(63);
        due("there is none", x.rows(0, 0), BAD);
        x.question(-1);
        due("the next ones", got(x.question(0), x.question(0), x.rows(2, 0)), 0, 1, BAD);
    }

    static void promise4FullBehindTwelve() {
        ContinuousRows x = new ContinuousRows(2);
        for (int question = 0; question < 12; question++) {
            due("question", x.question(1), question);
        }
        due("questions 12 and 13", got(x.question(1), x.question(0)), FULL, FULL);
    }

    static void promise4FullMakesNoQuestion() {
        ContinuousRows x = new ContinuousRows(2);
        for (int question = 0; question < 12; question++) {
            x.question(question);
        }
        x.question(40);
        due("there is no question 12", got(x.rows(12, 0), x.still(12)), BAD, BAD);
        due("the first and the last are as before", got(x.window(0, 0), x.window(11, 0)), 0, 11);
    }

    static void promise4BadGoesBeforeFull() {
        ContinuousRows x = new ContinuousRows(2);
        for (int question = 0; question < 12; question++) {
            x.question(0);
        }
        due("windows", got(x.question(63), x.question(-1)), BAD, BAD);
    }
}
