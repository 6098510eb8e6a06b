/** Tests of one sentence of the document each, with the number of its promise. */
final class Bound {
    /** The way from a to c is over b; none leads to d. */
    static final String LAND = "place a;place b;place c;place d;path a b 5;path b c 4;path c a 20;";
    /** x: a 10, b 15-; y: b 0-, none at d. */
    static final String TWO = LAND + "walker x plain start 10 pace 1 halt 0 round a b;"
        + "walker y plain start 0 pace 1 halt 0 round b d;"
        + "hour h by x at b is 15;hour i by y at b is 239;hour j by y at d is 0;";
    /**
     * As many places, walkers, hours as there can be. p: a 0-; q: b 0-; r: c 0-; s: e 0, f 7-; t: f 0-; u: f 230, e 237-.
     * A path leads from e to f alone.
     */
    static final String FULL = "place a;place b;place c;place d;place e;place f;path e f 7;"
        + "walker p plain start 0 pace 1 halt 0 round a d;walker q plain start 0 pace 1 halt 0 round b d;"
        + "walker r plain start 0 pace 1 halt 0 round c d;walker s brisk start 0 pace 1 halt 0 round e f d;"
        + "walker t plain start 0 pace 1 halt 0 round f d;walker u brisk start 230 pace 1 halt 0 round f e;"
        + "hour hp by p at a is 0;hour hq by q at b is 1;hour hr by r at c is 2;hour hs by s at f is 3;hour ht by t at f is 4;"
        + "hour hu by u at e is 239;";

    private static final int PROMISES = 29;
    private static final int[] TESTS = new int[PROMISES + 1];

    private Bound() {
    }

    /** Runs a test of a sentence that names a bound; an exception that reaches it is a wrong answer, too. */
    static void of(int promise, String sentence, Runnable test) {
        TESTS[promise]++;
        Due.within("promise " + promise + ", " + sentence + ": ");
        try {
            test.run();
        } catch (RuntimeException e) {
            Due.is("an exception that is not promised, " + e, true, false);
        }
        Due.within("");
    }

    /** The first of all that can be counted. */
    static void areCounts(HillClock x, int... due) {
        for (int what = 0; what < due.length; what++) {
            Due.is("count " + what, x.count(what), due[what]);
        }
    }

    /** Ends the tests of some promises: each of them must have had one. */
    static void end(int... promises) {
        int tests = 0;
        for (int promise : promises) {
            Due.is("promise " + promise + " has a test", TESTS[promise] > 0, true);
            tests += TESTS[promise];
        }
        System.out.println(tests + " sentences");
        Due.end();
    }
}
