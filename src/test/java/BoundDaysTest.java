/** Promises 5 to 16, 28 and 29: each sentence that names a bound of what is asked and done by hand has a test. */
public final class BoundDaysTest {
    private static final String LAND = Bound.LAND;
    private static final String TWO = Bound.TWO;
    private static final int MAX = Integer.MAX_VALUE;
    private static final int MIN = Integer.MIN_VALUE;
    private static final int UNDOS = 16;

    private BoundDaysTest() {
    }

    public static void main(String[] args) {
        ways();
        walkers();
        dayOfMinutes();
        going();
        staying();
        pacesAndSnow();
        waitingItsTime();
        waitingTillMet();
        waitingForNobody();
        hours();
        costs();
        costOfFacts();
        meetings();
        lateAndDead();
        deputies();
        snowAndDay();
        undone();
        undoneOnlyThese();
        judged();
        judgedFromTheBeginning();
        marks();
        marksHold();
        full();
        counts();
        Bound.end(5, 6, 7, 8, 9, 10, 11, 12, 13, 14, 15, 16, 28, 29);
    }

    private static HillClock one(String rest) {
        return Due.told(LAND + "walker x " + rest + ";");
    }

    /** Where a walker is in each minute: place, from, to and so on; else he is nowhere. */
    private static void isAt(HillClock x, int walker, int... spans) {
        for (int minute = 0; minute < 240; minute++) {
            int due = -1;
            for (int i = 0; i < spans.length; i += 3) {
                due = spans[i + 1] <= minute && minute <= spans[i + 2] ? spans[i] : due;
            }
            Due.is("where " + walker + " in " + minute, x.where(walker, minute), due);
        }
    }

    private static void ways() {
        Bound.of(5, "0 to itself", () -> {
            HillClock x = Due.told(LAND);
            for (int place = 0; place < 4; place++) {
                Due.is("way", x.way(place, place), 0);
            }
        });
        Bound.of(5, "none: no path leads there", () -> {
            HillClock x = Due.told(LAND);
            for (int place = 0; place < 3; place++) {
                Due.is("to d", x.way(place, 3), -1);
                Due.is("from d", x.way(3, place), -1);
            }
        });
        Bound.of(5, "the fewest minutes: over others, if that is less than the path", () -> {
            HillClock x = Due.told(LAND);
            Due.is("there", x.way(0, 2), 9);
            Due.is("back", x.way(2, 0), 9);
            Due.is("as many", Due.told("place a;place b;place c;path a b 5;path b c 4;path c a 9;").way(0, 2), 9);
            Due.is("fewer", Due.told("place a;place b;place c;path a b 5;path b c 4;path c a 8;").way(0, 2), 8);
        });
        Bound.of(5, "the fewest minutes: over all the others", () -> {
            HillClock x = Due.told("place a;place b;place c;place d;place e;place f;path a f 30;path f b 30;path b e 30;"
                + "path e c 30;path c d 30;");
            Due.is("the longest way there can be", x.way(0, 3), 150);
            Due.is("back", x.way(3, 0), 150);
        });
        Bound.of(5, "the fewest minutes: over the first place, over the last one", () -> {
            HillClock x = Due.told("place a;place b;place c;path b a 3;path a c 4;");
            Due.is("over a", x.way(1, 2), 7);
            x = Due.told("place a;place b;place c;path a c 3;path c b 4;path a b 30;");
            Due.is("over c", x.way(0, 1), 7);
        });
        Bound.of(5, "none: others", () -> {
            HillClock x = Due.told(LAND);
            for (int none : new int[] {-1, 4, 5, 6, MAX, MIN}) {
                Due.is("from " + none, x.way(none, 0), -1);
                Due.is("to " + none, x.way(0, none), -1);
                Due.is("both " + none, x.way(none, none), -1);
            }
        });
    }

    private static void walkers() {
        String both = LAND + "walker x brisk start 0 pace 1 halt 0 round a b;walker y idle start 0 pace 1 halt 0 round d a b c;";
        Bound.of(6, "kind 0 plain, 1 slow, 2 idle, 3 brisk", () -> {
            String[] kinds = {"plain", "slow", "idle", "brisk"};
            for (int kind = 0; kind < 4; kind++) {
                Due.is("kind", one(kinds[kind] + " start 0 pace 1 halt 0 round a b").walker(0, 0), kind);
            }
        });
        Bound.of(6, "the i-th place of his round; none beyond it", () -> {
            HillClock x = Due.told(both);
            Due.is("first", x.walker(0, 3), 0);
            Due.is("last of two", x.walker(0, 4), 1);
            Due.is("beyond two", x.walker(0, 5), -1);
            Due.is("first", x.walker(1, 3), 3);
            Due.is("last of four", x.walker(1, 6), 2);
            Due.is("beyond four", x.walker(1, 7), -1);
        });
        Bound.of(6, "none: others", () -> {
            HillClock x = Due.told(both);
            for (int none : new int[] {-1, 2, 6, MAX, MIN}) {
                for (int what = -1; what < 8; what++) {
                    Due.is("walker " + none, x.walker(none, what), -1);
                }
            }
            for (int what : new int[] {-1, -3, MIN, MIN + 3, 8, 100, MAX}) {
                Due.is("what " + what, x.walker(1, what), -1);
            }
        });
        Bound.of(6, "1 alive, else 0; late by 0 at first", () -> {
            HillClock x = Due.told(both);
            Due.is("alive", x.walker(1, 1), 1);
            Due.is("late", x.walker(1, 2), 0);
            x.late(1, 60);
            x.dies(1);
            Due.is("dead", x.walker(1, 1), 0);
            Due.is("the other one", x.walker(0, 1), 1);
            Due.is("late", x.walker(1, 2), 60);
        });
    }

    private static void dayOfMinutes() {
        Bound.of(7, "none: others than the minutes 0 to 239 and the walkers told", () -> {
            HillClock x = one("plain start 0 pace 1 halt 0 round a d");
            Due.is("minute 0", x.where(0, 0), 0);
            Due.is("minute 239", x.where(0, 239), 0);
            for (int none : new int[] {-1, 240, MAX, MIN}) {
                Due.is("minute " + none, x.where(0, none), -1);
                Due.is("walker " + (none == 240 ? 1 : none), x.where(none == 240 ? 1 : none, 0), -1);
            }
        });
        Bound.of(7, "from his start on: in minute 0", () ->
            isAt(one("plain start 0 pace 1 halt 0 round a b"), 0, 0, 0, 0, 1, 5, 239));
        Bound.of(7, "from his start on: in minute 239", () ->
            isAt(one("plain start 239 pace 1 halt 0 round a b"), 0, 0, 239, 239));
        Bound.of(7, "as many minutes as he is late, on: still in minute 239", () -> {
            HillClock x = one("plain start 179 pace 1 halt 0 round a b");
            x.late(0, 60);
            isAt(x, 0, 0, 239, 239);
        });
        Bound.of(7, "as many minutes as he is late, on: beyond the day", () -> {
            HillClock x = one("plain start 180 pace 1 halt 0 round a b");
            x.late(0, 60);
            isAt(x, 0);
            x = one("plain start 239 pace 1 halt 0 round a b");
            x.late(0, 1);
            isAt(x, 0);
        });
        Bound.of(7, "the day has no minute 240: who would come then does not", () -> {
            isAt(one("plain start 234 pace 1 halt 0 round a b"), 0, 0, 234, 234, 1, 239, 239);
            isAt(one("plain start 235 pace 1 halt 0 round a b"), 0, 0, 235, 235);
        });
        Bound.of(7, "a walker alive: one who is dead is nowhere", () -> {
            HillClock x = one("plain start 0 pace 1 halt 0 round a b");
            x.dies(0);
            isAt(x, 0);
        });
    }

    private static void going() {
        Bound.of(7, "who has been there his halt goes: halt 0", () ->
            isAt(one("plain start 3 pace 1 halt 0 round a b a"), 0, 0, 3, 3, 1, 8, 8, 0, 13, 239));
        Bound.of(7, "who has been there his halt goes: halt 1", () ->
            isAt(one("plain start 3 pace 1 halt 1 round a b a"), 0, 0, 3, 4, 1, 9, 10, 0, 15, 239));
        Bound.of(7, "who has been there his halt goes: halt 30", () ->
            isAt(one("plain start 3 pace 1 halt 30 round a b"), 0, 0, 3, 33, 1, 38, 239));
        Bound.of(7, "an idle one twice that: 0, 2, 60", () -> {
            isAt(one("idle start 3 pace 1 halt 0 round a b"), 0, 0, 3, 3, 1, 8, 239);
            isAt(one("idle start 3 pace 1 halt 1 round a b"), 0, 0, 3, 5, 1, 10, 239);
            isAt(one("idle start 3 pace 1 halt 30 round a b"), 0, 0, 3, 63, 1, 68, 239);
        });
        Bound.of(7, "till then he is nowhere, at no place between", () ->
            isAt(one("plain start 0 pace 1 halt 0 round a c"), 0, 0, 0, 0, 2, 9, 239));
    }

    private static void staying() {
        Bound.of(7, "if there is a next place of his round: else he stays", () -> {
            isAt(one("plain start 0 pace 1 halt 0 round a b"), 0, 0, 0, 0, 1, 5, 239);
            isAt(one("plain start 0 pace 1 halt 0 round a b a b"), 0, 0, 0, 0, 1, 5, 5, 0, 10, 10, 1, 15, 239);
        });
        Bound.of(7, "if there is a way: else he stays", () -> {
            isAt(one("plain start 7 pace 1 halt 0 round a d"), 0, 0, 7, 239);
            isAt(one("plain start 7 pace 1 halt 0 round a b d a"), 0, 0, 7, 7, 1, 12, 239);
            isAt(one("plain start 7 pace 1 halt 0 round d a b"), 0, 3, 7, 239);
        });
    }

    private static void pacesAndSnow() {
        Bound.of(7, "the way times his pace: 1 to 5", () -> {
            for (int pace = 1; pace <= 5; pace++) {
                isAt(one("plain start 0 pace " + pace + " halt 0 round a b"), 0, 0, 0, 0, 1, 5 * pace, 239);
            }
        });
        Bound.of(7, "a slow one's is one more", () -> {
            isAt(one("slow start 0 pace 1 halt 0 round a b"), 0, 0, 0, 0, 1, 10, 239);
            isAt(one("slow start 0 pace 5 halt 0 round a b"), 0, 0, 0, 0, 1, 30, 239);
        });
        Bound.of(7, "twice that in snow: plain, slow, idle", () -> {
            String[] men = {"plain start 0 pace 5", "slow start 0 pace 5", "idle start 0 pace 5"};
            int[] there = {50, 60, 50};
            for (int i = 0; i < 3; i++) {
                HillClock x = one(men[i] + " halt 0 round a b");
                x.snow();
                isAt(x, 0, 0, 0, 0, 1, there[i], 239);
            }
        });
        Bound.of(7, "twice that in snow, not of a brisk one", () -> {
            HillClock x = one("brisk start 0 pace 5 halt 0 round a b");
            x.snow();
            isAt(x, 0, 0, 0, 0, 1, 25, 239);
        });
        Bound.of(7, "in snow halts are as long as ever", () -> {
            HillClock x = one("idle start 0 pace 1 halt 3 round a b");
            x.snow();
            isAt(x, 0, 0, 0, 6, 1, 16, 239);
        });
        Bound.of(7, "the longest way there can be ends beyond the day", () -> {
            HillClock x = Due.told("place a;place b;place c;place d;place e;place f;path a b 30;path b c 30;path c d 30;"
                + "path d e 30;path e f 30;walker x slow start 0 pace 5 halt 0 round a f;");
            x.snow();
            isAt(x, 0, 0, 0, 0);
        });
    }

    /** x is at a from minute 10 and waits there for y; what else is told of y and of others. */
    private static HillClock waits(String man, int minutes, String others) {
        return Due.told(LAND + "walker x " + man + " round a b;" + others + "waits x at a for y " + minutes + ";");
    }

    private static String other(int start, int halt, String round) {
        return "walker y plain start " + start + " pace 1 halt " + halt + " round " + round + ";";
    }

    private static void waitingItsTime() {
        String x = "plain start 10 pace 1 halt 0";
        Bound.of(7, "or has been there as many minutes as he waits: 1, 60", () -> {
            isAt(waits(x, 1, other(0, 0, "b d")), 0, 0, 10, 11, 1, 16, 239);
            isAt(waits(x, 60, other(0, 0, "b d")), 0, 0, 10, 70, 1, 75, 239);
        });
        Bound.of(7, "his halt and his wait: the longer one", () -> {
            isAt(waits("plain start 10 pace 1 halt 30", 29, other(0, 0, "b d")), 0, 0, 10, 40, 1, 45, 239);
            isAt(waits("plain start 10 pace 1 halt 29", 30, other(0, 0, "b d")), 0, 0, 10, 40, 1, 45, 239);
            isAt(waits("idle start 10 pace 1 halt 15", 29, other(0, 0, "b d")), 0, 0, 10, 40, 1, 45, 239);
            isAt(waits("idle start 10 pace 1 halt 2", 30, other(0, 0, "b d")), 0, 0, 10, 40, 1, 45, 239);
        });
        Bound.of(7, "in snow he waits as long as ever", () -> {
            HillClock snowy = waits(x, 20, other(0, 0, "b d"));
            snowy.snow();
            isAt(snowy, 0, 0, 10, 30, 1, 40, 239);
        });
        Bound.of(7, "he waits there alone: at another place he does not", () -> {
            HillClock at = Due.told(LAND + "walker x plain start 10 pace 1 halt 0 round b a b;" + other(0, 0, "c d")
                + "waits x at a for y 7;");
            isAt(at, 0, 1, 10, 10, 0, 15, 22, 1, 27, 239);
        });
        Bound.of(7, "at his last place he stays, whoever comes", () -> {
            HillClock at = Due.told(LAND + "walker x plain start 10 pace 1 halt 0 round b a;" + other(0, 0, "a d")
                + "waits x at a for y 1;");
            isAt(at, 0, 1, 10, 10, 0, 15, 239);
        });
    }

    private static void waitingTillMet() {
        String x = "plain start 10 pace 1 halt 0";
        Bound.of(7, "has met him: in the minute in which he comes himself", () -> {
            isAt(waits(x, 60, other(0, 0, "a d")), 0, 0, 10, 10, 1, 15, 239);
            isAt(waits(x, 60, other(10, 0, "a d")), 0, 0, 10, 10, 1, 15, 239);
        });
        Bound.of(7, "has met him: in the last minute of the other one", () -> {
            isAt(waits(x, 60, other(0, 10, "a b")), 0, 0, 10, 10, 1, 15, 239);
            isAt(waits(x, 60, other(0, 9, "a b")), 0, 0, 10, 70, 1, 75, 239);
        });
        Bound.of(7, "has met him: in the last minute of his own", () -> {
            HillClock last = waits(x, 60, other(70, 0, "a b"));
            Due.is("they meet", last.meet(0, 1, 0), 70);
            isAt(last, 0, 0, 10, 70, 1, 75, 239);
            last = waits(x, 60, other(71, 0, "a d"));
            Due.is("he is gone", last.meet(0, 1, 0), -1);
        });
        Bound.of(7, "has met him: a minute before his wait ends", () ->
            isAt(waits(x, 60, other(69, 0, "a d")), 0, 0, 10, 69, 1, 74, 239));
        Bound.of(7, "has met him, and has been there his halt", () -> {
            isAt(waits("plain start 10 pace 1 halt 20", 60, other(15, 0, "a b")), 0, 0, 10, 30, 1, 35, 239);
            isAt(waits("plain start 10 pace 1 halt 20", 60, other(31, 0, "a b")), 0, 0, 10, 31, 1, 36, 239);
            isAt(waits("idle start 10 pace 1 halt 20", 60, other(15, 0, "a b")), 0, 0, 10, 50, 1, 55, 239);
        });
    }

    private static void waitingForNobody() {
        String x = "plain start 10 pace 1 halt 0";
        Bound.of(7, "since he came: not when he was there before", () -> {
            HillClock again = Due.told(LAND + "walker x plain start 10 pace 1 halt 0 round a b a b;" + other(10, 0, "a b d")
                + "waits x at a for y 60;");
            isAt(again, 0, 0, 10, 10, 1, 15, 15, 0, 20, 80, 1, 85, 239);
        });
        Bound.of(7, "met him there: not at another place", () -> {
            HillClock there = Due.told(LAND + "walker x plain start 10 pace 1 halt 0 round b a b;" + other(0, 0, "b d")
                + "waits x at a for y 60;");
            isAt(there, 0, 1, 10, 10, 0, 15, 75, 1, 80, 239);
        });
        Bound.of(7, "met him: not another one, nor one who waits for him", () -> {
            HillClock z = waits(x, 60, other(0, 0, "b d") + "walker z plain start 0 pace 1 halt 0 round a b;waits z at a for x 60;");
            isAt(z, 0, 0, 10, 70, 1, 75, 239);
            isAt(z, 2, 0, 0, 10, 1, 15, 239);
        });
        Bound.of(7, "who waits for one who is dead waits that long", () -> {
            HillClock dead = waits(x, 60, other(0, 0, "a d"));
            dead.dies(1);
            isAt(dead, 0, 0, 10, 70, 1, 75, 239);
        });
        Bound.of(7, "two who wait for each other go together", () -> {
            HillClock both = waits(x, 60, other(40, 0, "a c") + "waits y at a for x 60;");
            isAt(both, 0, 0, 10, 40, 1, 45, 239);
            isAt(both, 1, 0, 40, 40, 2, 49, 239);
        });
    }

    private static void hours() {
        String round = LAND + "walker x plain start 10 pace 1 halt 0 round a b a;";
        Bound.of(8, "an hour is the first minute in which he is there", () -> {
            HillClock x = Due.told(round + "hour h by x at a is 20;hour i by x at b is 15;");
            Due.is("of two", x.hour(0, 3), 10);
            Due.is("off", x.hour(0, 4), 10);
            Due.is("of one", x.hour(1, 3), 15);
            Due.is("not off", x.hour(1, 4), 0);
        });
        Bound.of(8, "off is off, whatever it costs", () -> {
            HillClock x = Due.told(round + "hour h by x at a is 20;hour i by x at b is 15;missed 33;");
            Due.is("off", x.hour(0, 4), 10);
            Due.is("cost", x.hour(0, 5), 33);
            Due.is("not off", x.hour(1, 4), 0);
            Due.is("cost", x.hour(1, 5), 33);
        });
        Bound.of(8, "an hour can be minute 0 and minute 239", () -> {
            HillClock x = Due.told(LAND + "walker x plain start 0 pace 1 halt 0 round a b;hour h by x at a is 239;"
                + "walker y plain start 234 pace 1 halt 0 round a b;hour i by y at b is 0;");
            Due.is("0", x.hour(0, 3), 0);
            Due.is("off, early", x.hour(0, 4), 239);
            Due.is("239", x.hour(1, 3), 239);
            Due.is("off, late", x.hour(1, 4), 239);
        });
        Bound.of(8, "an hour is none if he is not there on that day", () -> {
            HillClock x = Due.told(LAND + "walker y plain start 234 pace 1 halt 0 round a b;hour i by y at b is 239;"
                + "walker x plain start 0 pace 1 halt 0 round a d;hour h by x at d is 0;");
            Due.is("in the last minute", x.hour(0, 3), 239);
            x.late(0, 1);
            Due.is("a minute too late", x.hour(0, 3), -1);
            Due.is("no way", x.hour(1, 3), -1);
            Due.is("its told minute", x.hour(1, 2), 0);
        });
        Bound.of(8, "off: 240 if it is none", () -> {
            HillClock x = Due.told(TWO);
            Due.is("no way", x.hour(2, 4), 240);
            x.dies(1);
            Due.is("dead", x.hour(1, 4), 240);
            Due.is("cost without a law", x.hour(1, 5), 240);
        });
        Bound.of(8, "-2: others", () -> {
            HillClock x = Due.told(TWO);
            for (int what : new int[] {-1, -2, 6, 7, MAX, MIN}) {
                Due.is("what " + what, x.hour(0, what), -2);
            }
            for (int hour : new int[] {-1, -2, 3, 6, MAX, MIN}) {
                for (int what = 0; what < 6; what++) {
                    Due.is("hour " + hour, x.hour(hour, what), -2);
                }
            }
        });
    }

    /** The cost, by a law, of an hour that is 7 minutes late on day 2. */
    private static void cost(String law, int due) {
        HillClock x = Due.told(LAND + "walker x plain start 10 pace 1 halt 0 round a b;hour h by x at b is 8;" + law);
        x.day();
        x.day();
        Due.is("cost by " + law, x.hour(0, 5), due);
    }

    private static void costs() {
        Bound.of(8, "cost: 999 at most", () -> {
            cost("missed 998;", 998);
            cost("missed 999;", 999);
            cost("missed 1000;", 999);
            cost("missed 9999;", 999);
        });
        Bound.of(8, "cost: 0 at least", () -> {
            cost("missed 1;", 1);
            cost("missed 0;", 0);
            cost("missed 0-1;", 0);
            cost("missed 0-9999;", 0);
        });
        Bound.of(8, "cost: only the whole of the law is held within 0 and 999", () -> {
            cost("missed 9999-9990;", 9);
            cost("missed 5-9+6;", 2);
            cost("missed (0-2)*(0-3);", 6);
        });
        Bound.of(8, "cost: ints wrap", () -> {
            cost("missed 9999*9999*21;", 999);
            cost("missed 9999*9999*22;", 0);
            cost("missed 9999*9999*43-9999*417-3000;", 164);
            cost("missed 0-9999*9999*43+9999*417+4000;", 836);
        });
        Bound.of(8, "cost: wrapped ints are compared as they are", () -> {
            cost("missed 9999*9999*22<0;", 1);
            cost("missed 9999*9999*21<0;", 0);
        });
        Bound.of(8, "cost: of not, and, or, < and = comes 1 or 0", () -> {
            cost("missed 7<8;", 1);
            cost("missed 7<7;", 0);
            cost("missed 8<7;", 0);
            cost("missed 7=7;", 1);
            cost("missed 7=8;", 0);
            cost("missed 5 and 6;", 1);
            cost("missed 5 and 0;", 0);
            cost("missed 0 and 5;", 0);
            cost("missed 0 or 6;", 1);
            cost("missed 6 or 0;", 1);
            cost("missed 0 or 0;", 0);
            cost("missed not 5;", 0);
            cost("missed not 0;", 1);
        });
        Bound.of(8, "cost: what is not 0 is so, what is below 0, too", () -> {
            cost("missed 0-1 and 0-2;", 1);
            cost("missed 0 or 0-1;", 1);
            cost("missed not (0-1);", 0);
            cost("missed not not (0-1);", 1);
        });
        Bound.of(8, "cost: from the left", () -> {
            cost("missed 1 or 0 and 0;", 0);
            cost("missed 0 and 0 or 1;", 1);
            cost("missed 9-4-3;", 2);
            cost("missed 2+3*4;", 14);
            cost("missed not 0*5;", 5);
            cost("missed not 0+5;", 6);
            cost("missed 0<1 and 2=2;", 1);
        });
    }

    private static void costOfFacts() {
        Bound.of(8, "cost: without missed off", () -> cost("", 7));
        Bound.of(8, "cost: none is 0, days those that have passed", () -> {
            cost("missed off+none*100;", 7);
            cost("missed days;", 2);
        });
        Bound.of(8, "cost: of an hour that is none off is 240, none is 1", () -> {
            Due.is("off", Due.told(TWO + "missed off;").hour(2, 5), 240);
            Due.is("none", Due.told(TWO + "missed none;").hour(2, 5), 1);
            Due.is("not none", Due.told(TWO + "missed not none;").hour(2, 5), 0);
        });
        Bound.of(8, "cost: no day has passed at first", () -> Due.is("days", Due.told(TWO + "missed days;").hour(0, 5), 0));
        Bound.of(8, "cost: a law as long as the tape, and one with parts in parts", () -> {
            StringBuilder text = new StringBuilder();
            for (int i = 0; i < 400; i++) {
                text.append("+1");
            }
            cost("missed 1" + text + ";", 401);
            String part = "0 or 0<0+1*";
            cost("missed " + part + "(" + part + "(" + part + "(" + part + "(" + part + "1))));", 1);
            cost("missed 9-1*(9-1*(9-1*(9-1*(9-1*2))));", 7);
        });
    }

    private static void meetings() {
        String a = LAND + "walker x plain start 10 pace 1 halt 5 round a b;";
        Bound.of(9, "-2: others, the same", () -> {
            HillClock x = Due.told(TWO);
            for (int what = 0; what < 2; what++) {
                Due.is("the same", x.meet(1, 1, what), -2);
                for (int none : new int[] {-1, 2, 6, MAX, MIN}) {
                    Due.is("one " + none, x.meet(none, 0, what), -2);
                    Due.is("other " + none, x.meet(0, none, what), -2);
                }
            }
            for (int what : new int[] {-1, 2, MAX, MIN}) {
                Due.is("what " + what, x.meet(0, 1, what), -2);
            }
        });
        Bound.of(9, "who comes in the minute in which the other one goes meets him", () -> {
            HillClock x = Due.told(a + "walker y plain start 15 pace 1 halt 0 round a d;");
            Due.is("minute", x.meet(0, 1, 0), 15);
            Due.is("place", x.meet(1, 0, 1), 0);
        });
        Bound.of(9, "who comes a minute later meets him no more: never", () -> {
            HillClock x = Due.told(a + "walker y plain start 16 pace 1 halt 0 round a d;");
            Due.is("minute", x.meet(0, 1, 0), -1);
            Due.is("place", x.meet(0, 1, 1), -1);
        });
        Bound.of(9, "who comes in the minute in which the other one comes meets him", () ->
            Due.is("minute", Due.told(a + "walker y plain start 10 pace 1 halt 0 round a c;").meet(0, 1, 0), 10));
        Bound.of(9, "in minute 0, in minute 239", () -> {
            HillClock x = Due.told(LAND + "walker x plain start 0 pace 1 halt 0 round a b;walker y plain start 0 pace 1 halt 0 round a c;"
                + "walker z plain start 230 pace 1 halt 0 round c b;walker v plain start 239 pace 1 halt 0 round b a;");
            Due.is("0", x.meet(0, 1, 0), 0);
            Due.is("239", x.meet(0, 3, 0), 239);
            x.late(3, 1);
            Due.is("never", x.meet(0, 3, 0), -1);
        });
        Bound.of(9, "the first minute, of two places the earlier one", () -> {
            HillClock x = Due.told(LAND + "walker x plain start 0 pace 1 halt 0 round b a;walker y plain start 0 pace 1 halt 0 round b a;");
            Due.is("minute", x.meet(0, 1, 0), 0);
            Due.is("place", x.meet(0, 1, 1), 1);
        });
        Bound.of(9, "nowhere is no place: on the way nobody is met", () -> {
            HillClock x = Due.told(LAND + "walker x plain start 1 pace 1 halt 0 round a b;walker y plain start 1 pace 1 halt 0 round b a;");
            Due.is("minute", x.meet(0, 1, 0), -1);
        });
        Bound.of(9, "one who is dead meets nobody", () -> {
            HillClock x = Due.told(TWO);
            Due.is("alive", x.meet(0, 1, 0), 15);
            x.dies(1);
            Due.is("dead", x.meet(0, 1, 0), -1);
        });
    }

    private static void lateAndDead() {
        Bound.of(10, "0 to 60 minutes", () -> {
            HillClock x = Due.told(TWO);
            Due.is("60", x.late(0, 60), true);
            Due.is("by 60", x.walker(0, 2), 60);
            Due.is("0", x.late(0, 0), true);
            Due.is("by 0", x.walker(0, 2), 0);
        });
        Bound.of(10, "false: others; nothing is done then", () -> {
            HillClock x = Due.told(TWO);
            x.late(0, 7);
            for (int none : new int[] {-1, 61, 100, MAX, MIN}) {
                Due.is("minutes " + none, x.late(0, none), false);
            }
            for (int none : new int[] {-1, 2, 6, MAX, MIN}) {
                Due.is("walker " + none, x.late(none, 5), false);
            }
            Due.is("late by", x.walker(0, 2), 7);
            Due.is("to be undone", x.count(12), 1);
        });
        Bound.of(10, "a later lateness stands in place of the one before", () -> {
            HillClock x = Due.told(TWO);
            x.late(0, 50);
            x.late(0, 20);
            Due.is("late by", x.walker(0, 2), 20);
            Due.is("the same again", x.late(0, 20), true);
            Due.is("to be undone", x.count(12), 3);
        });
        Bound.of(10, "late always can be: one who is dead, too", () -> {
            HillClock x = Due.told(TWO);
            x.dies(0);
            Due.is("late", x.late(0, 5), true);
            Due.is("late by", x.walker(0, 2), 5);
        });
        Bound.of(11, "false: others, dead; nothing is done then", () -> {
            HillClock x = Due.told(TWO);
            Due.is("dies", x.dies(1), true);
            Due.is("dead", x.dies(1), false);
            for (int none : new int[] {-1, 2, 6, 31, 32, MAX, MIN}) {
                Due.is("walker " + none, x.dies(none), false);
            }
            Due.is("alive", x.count(7), 1);
            Due.is("to be undone", x.count(12), 1);
        });
        Bound.of(11, "all can die, each by himself", () -> {
            StringBuilder six = new StringBuilder(LAND);
            for (char name = 'p'; name <= 'u'; name++) {
                six.append("walker ").append(name).append(" plain start 0 pace 1 halt 0 round a b;");
            }
            HillClock x = Due.told(six.toString());
            for (int walker = 5; walker >= 0; walker--) {
                Due.is("alive", x.count(7), (2 << walker) - 1);
                Due.is("dies", x.dies(walker), true);
            }
            Due.is("nobody is alive", x.count(7), 0);
            Due.is("a day without them", x.day(), 0);
        });
        Bound.of(11, "for good: the next day, too", () -> {
            HillClock x = Due.told(TWO);
            x.dies(1);
            x.day();
            Due.is("alive", x.count(7), 1);
            Due.is("dies again", x.dies(1), false);
        });
    }

    private static void deputies() {
        Bound.of(12, "false: it is his", () -> {
            HillClock x = Due.told(TWO);
            Due.is("as told", x.deputy(0, 0), false);
            Due.is("another one", x.deputy(0, 1), true);
            Due.is("his by now", x.deputy(0, 1), false);
            Due.is("back", x.deputy(0, 0), true);
            Due.is("his again", x.deputy(0, 0), false);
            Due.is("to be undone", x.count(12), 2);
        });
        Bound.of(12, "false: it can't be, he is dead", () -> {
            HillClock x = Due.told(TWO);
            x.dies(1);
            Due.is("dead", x.deputy(0, 1), false);
            Due.is("by", x.hour(0, 0), 0);
            Due.is("to be undone", x.count(12), 1);
        });
        Bound.of(12, "false: it can't be, its place is not of his round", () -> {
            HillClock x = Due.told(TWO);
            Due.is("not of his round", x.deputy(2, 0), false);
            Due.is("by", x.hour(2, 0), 1);
        });
        Bound.of(12, "false: others", () -> {
            HillClock x = Due.told(TWO);
            for (int none : new int[] {-1, 3, 6, MAX, MIN}) {
                Due.is("hour " + none, x.deputy(none, 1), false);
                Due.is("walker " + none, x.deputy(0, none == 3 ? 2 : none), false);
            }
            Due.is("to be undone", x.count(12), 0);
        });
        Bound.of(12, "by him from then on: on later days, though he dies", () -> {
            HillClock x = Due.told(TWO);
            x.deputy(0, 1);
            Due.is("when", x.hour(0, 3), 0);
            x.day();
            x.dies(1);
            Due.is("by", x.hour(0, 0), 1);
            Due.is("none", x.hour(0, 3), -1);
        });
        Bound.of(12, "one walker may have several hours", () -> {
            HillClock x = Due.told(TWO);
            x.dies(1);
            Due.is("a second one", x.deputy(1, 0), true);
            Due.is("the first", x.hour(0, 3), 15);
            Due.is("the second", x.hour(1, 3), 15);
        });
    }

    private static void snowAndDay() {
        Bound.of(13, "false: there is", () -> {
            HillClock x = Due.told(TWO);
            Due.is("snow", x.snow(), true);
            Due.is("there is", x.snow(), false);
            Due.is("count", x.count(8), 1);
            Due.is("to be undone", x.count(12), 1);
        });
        Bound.of(13, "this day: the next one can have it again", () -> {
            HillClock x = Due.told(TWO);
            x.snow();
            x.day();
            Due.is("no snow", x.count(8), 0);
            Due.is("way", x.hour(0, 3), 15);
            Due.is("snow", x.snow(), true);
            Due.is("way in snow", x.hour(0, 3), 20);
        });
        Bound.of(14, "without hours a day costs nothing, and passes", () -> {
            HillClock x = Due.told(LAND);
            Due.is("day", x.day(), 0);
            Due.is("count", x.count(5), 1);
        });
        Bound.of(14, "the cost of all hours is added: six at their dearest", () -> {
            StringBuilder six = new StringBuilder(LAND + "walker x plain start 0 pace 1 halt 0 round a b;missed 9999;");
            for (char name = 'p'; name <= 'u'; name++) {
                six.append("hour ").append(name).append(" by x at b is 1;");
            }
            HillClock x = Due.told(six.toString());
            Due.is("day", x.day(), 5994);
            Due.is("day", x.day(), 5994);
            Due.is("missed", x.count(6), 11988);
        });
        Bound.of(14, "nobody is late, no snow then; it is the next day", () -> {
            HillClock x = Due.told(TWO + "missed off+days;");
            x.late(0, 9);
            x.late(1, 9);
            x.snow();
            Due.is("cost", x.day(), 14 + 230 + 240);
            Bound.areCounts(x, 4, 2, 3, 3, 0, 1, 484, 3, 0);
            Due.is("late", x.walker(0, 2) + x.walker(1, 2), 0);
            Due.is("cost of the next", x.day(), 1 + 240 + 241);
        });
    }

    private static void undone() {
        Bound.of(15, "false: nothing can be", () -> {
            HillClock x = Due.told(TWO);
            Due.is("at first", x.undo(), false);
            x.snow();
            Due.is("one", x.undo(), true);
            Due.is("no more", x.undo(), false);
            Due.is("no snow", x.count(8), 0);
        });
        Bound.of(15, "the last 16: so many at most", () -> {
            HillClock x = Due.told(TWO);
            for (int i = 1; i <= UNDOS; i++) {
                x.late(0, i);
                Due.is("to be undone", x.count(12), i);
            }
            x.late(0, UNDOS + 1);
            Due.is("16", x.count(12), UNDOS);
            for (int i = UNDOS; i >= 1; i--) {
                Due.is("undo", x.undo(), true);
                Due.is("late by", x.walker(0, 2), i);
            }
            Due.is("the 17th is done for good", x.undo(), false);
            Due.is("late by", x.walker(0, 2), 1);
        });
        Bound.of(15, "the last 16: all of just sixteen", () -> {
            HillClock x = Due.told(TWO);
            for (int i = 1; i <= UNDOS; i++) {
                x.late(0, i);
            }
            for (int i = UNDOS - 1; i >= 0; i--) {
                Due.is("undo", x.undo(), true);
                Due.is("late by", x.walker(0, 2), i);
            }
            Due.is("no more", x.undo(), false);
        });
        Bound.of(15, "the last 16: round and round", BoundDaysTest::undoneRoundAndRound);
        Bound.of(15, "one by one, the last one first: each of the five", () -> {
            HillClock x = Due.told(TWO);
            x.late(0, 7);
            x.dies(1);
            x.deputy(1, 0);
            x.snow();
            x.day();
            Due.is("the day", x.undo(), true);
            Bound.areCounts(x, 4, 2, 3, 3, 0, 0, 0, 1, 1);
            Due.is("late again", x.walker(0, 2), 7);
            Due.is("the snow", x.undo(), true);
            Due.is("none", x.count(8), 0);
            Due.is("the deputy", x.undo(), true);
            Due.is("by", x.hour(1, 0), 1);
            Due.is("the death", x.undo(), true);
            Due.is("alive", x.count(7), 3);
            Due.is("the lateness", x.undo(), true);
            Due.is("late by", x.walker(0, 2), 0);
        });
    }

    private static void undoneRoundAndRound() {
        HillClock x = Due.told(TWO);
        int[] before = new int[200];
        int done = 0;
        int kept = 0;
        for (int i = 1; i < 150; i++) {
            if (i % 7 < 4) {
                before[done] = x.walker(0, 2);
                x.late(0, i % 61);
                done++;
                kept = Math.min(UNDOS, kept + 1);
            } else {
                Due.is("undo", x.undo(), kept > 0);
                done -= kept > 0 ? 1 : 0;
                kept = Math.max(0, kept - 1);
                Due.is("late by", x.walker(0, 2), before[done]);
            }
        }
        Due.is("to be undone", x.count(12), kept);
    }

    private static void undoneOnlyThese() {
        Bound.of(15, "these alone: what was refused is not among them", () -> {
            HillClock x = Due.told(TWO);
            x.late(0, 61);
            x.dies(5);
            x.deputy(0, 0);
            x.snow();
            x.snow();
            Due.is("one", x.count(12), 1);
        });
        Bound.of(15, "these alone: what is fed, told, seen, marked or asked is not among them", () -> {
            HillClock x = Due.told(TWO);
            x.snow();
            x.see(0, 0, true);
            x.tell(0, 5);
            x.mark(0, false);
            Due.is("days", Due.days(x, "day;"), 0);
            x.feed('a', 0, 0);
            x.judged(2);
            x.years(1, 20, 0);
            x.sets(60, 0);
            x.sure(0, 1, 0);
            Due.is("one", x.count(12), 1);
            Due.is("undo", x.undo(), true);
            Bound.areCounts(x, 4, 2, 3, 3, 0, 0, 0, 3, 0, 1, 1, 1, 0, 1);
            Due.is("the mark", x.mark(0, true), true);
        });
    }

    private static void areJudged(HillClock x, String days, int cant, int none, int missed) {
        Due.is("days " + days, Due.days(x, days), 0);
        Due.is("can't be, of " + days, x.judged(0), cant);
        Due.is("none, of " + days, x.judged(1), none);
        Due.is("missed, of " + days, x.judged(2), missed);
    }

    private static void judged() {
        String met = LAND + "walker x plain start 10 pace 1 halt 0 round a b;walker y plain start 0 pace 1 halt 0 round b c;"
            + "walker z plain start 0 pace 1 halt 0 round a c;hour h by x at b is 15;";
        Bound.of(16, "-2: others", () -> {
            HillClock x = Due.told(met);
            for (int what : new int[] {-1, -2, 3, MAX, MIN}) {
                Due.is("what " + what, x.judged(what), -2);
            }
        });
        Bound.of(16, "none: no such line; without days nothing is missed", () -> {
            areJudged(Due.told(met), "", -1, -1, 0);
            areJudged(Due.told(met), "day;", -1, -1, 0);
            areJudged(Due.told(met), "late x 5;snow;", -1, -1, 0);
        });
        Bound.of(16, "the first line, from 0, that can't be", () -> {
            areJudged(Due.told(met), "deputy h x;deputy h x;", 0, -1, 0);
            areJudged(Due.told(met), "day;snow;snow;snow;", 2, -1, 0);
        });
        Bound.of(16, "the last line of thirty", () -> {
            String days = "day;day;day;day;day;day;day;day;day;day;day;day;day;day;day;day;day;day;day;day;day;day;day;day;day;day;day;";
            areJudged(Due.told(met), days + "day;snow;snow;", 29, -1, 0);
            areJudged(Due.told(met), days + "day;dies x;day;", -1, 29, 240);
        });
        Bound.of(16, "can't be: dies of one dead", () ->
            areJudged(Due.told(met), "dies y;dies z;dies y;", 2, -1, 0));
        Bound.of(16, "can't be: a deputy who is dead, not of its round, or is it already", () -> {
            areJudged(Due.told(met), "dies y;deputy h y;day;", 1, -1, 0);
            areJudged(Due.told(met), "deputy h z;day;", 0, -1, 0);
            areJudged(Due.told(met), "deputy h y;deputy h y;day;", 1, -1, 15);
            areJudged(Due.told(met), "deputy h y;deputy h x;day;", -1, -1, 0);
        });
        Bound.of(16, "can't be: snow in snow; on the next day it can", () -> {
            areJudged(Due.told(met), "snow;day;snow;day;", -1, -1, 10);
            areJudged(Due.told(met), "snow;late x 1;snow;day;", 2, -1, 6);
        });
        Bound.of(16, "late, day always can", () ->
            areJudged(Due.told(met), "day;day;late x 3;late x 3;late x 0;dies y;late y 60;late y 0;day;", -1, -1, 0));
        Bound.of(16, "the first day's line by which an hour is none", () -> {
            areJudged(Due.told(met), "dies x;day;day;", -1, 1, 480);
            areJudged(Due.told(met), "day;dies x;deputy h y;day;dies y;late z 1;day;day;", -1, 6, 15 + 480);
            areJudged(Due.told(LAND + "walker x plain start 0 pace 1 halt 0 round a d;hour h by x at d is 0;"), "day;", -1, 0, 240);
        });
        Bound.of(16, "none: by an hour alone, not by an early or late one", () ->
            areJudged(Due.told(met), "late x 60;day;", -1, -1, 60));
    }

    private static void judgedFromTheBeginning() {
        Bound.of(16, "from the beginning: whatever was done by hand, which stays", () -> {
            HillClock x = Due.told(TWO + "missed off+days;");
            x.day();
            x.dies(0);
            x.deputy(1, 0);
            x.late(1, 9);
            x.snow();
            int missed = x.count(6);
            areJudged(x, "snow;dies x;day;day;", -1, 2, 240 + 239 + 240 + 241 + 240 + 241);
            Bound.areCounts(x, 4, 2, 3, 3, 0, 1, missed, 2, 1, 4, 0, 0, 4);
            Due.is("by", x.hour(1, 0), 1);
            Due.is("late by", x.walker(1, 2), 9);
        });
        Bound.of(16, "a line that can't be is left out", () -> {
            HillClock x = Due.told(TWO);
            areJudged(x, "dies x;deputy h x;deputy i x;dies x;day;", 1, 4, 240 + 239 + 240);
        });
        Bound.of(16, "without hills", () -> areJudged(new HillClock(), "snow;snow;day;", 1, -1, 0));
    }

    private static void marks() {
        Bound.of(28, "false: none such", () -> {
            HillClock x = Due.told(TWO);
            for (int none : new int[] {-1, 4, 5, MAX, MIN}) {
                Due.is("mark " + none, x.mark(none, false), false);
                Due.is("back to " + none, x.mark(none, true), false);
            }
        });
        Bound.of(28, "false: nothing is on it", () -> {
            HillClock x = Due.told(TWO);
            x.snow();
            for (int mark = 0; mark < 4; mark++) {
                Due.is("back to " + mark, x.mark(mark, true), false);
            }
            Due.is("all stays", x.count(8), 1);
            Due.is("to be undone", x.count(12), 1);
            x.mark(2, false);
            Due.is("on another one", x.mark(1, true), false);
        });
        Bound.of(28, "marks 0 to 3, each by itself", () -> {
            HillClock x = Due.told(TWO);
            for (int mark = 0; mark < 4; mark++) {
                x.late(0, 10 + mark);
                Due.is("mark " + mark, x.mark(mark, false), true);
            }
            for (int mark = 3; mark >= 0; mark--) {
                Due.is("back to " + mark, x.mark(mark, true), true);
                Due.is("late by", x.walker(0, 2), 10 + mark);
            }
        });
        Bound.of(28, "a mark is laid anew in place of the one before", () -> {
            HillClock x = Due.told(TWO);
            x.mark(0, false);
            x.late(0, 9);
            x.mark(0, false);
            x.late(0, 8);
            Due.is("back", x.mark(0, true), true);
            Due.is("late by", x.walker(0, 2), 9);
        });
        Bound.of(28, "a mark gone back to is still there, as it was", () -> {
            HillClock x = Due.told(TWO);
            x.mark(0, false);
            for (int i = 1; i < 4; i++) {
                x.late(0, i);
                x.dies(1);
                x.see(0, 0, true);
                x.tell(0, i);
                Due.is("days", Due.days(x, "day;"), 0);
                Due.is("back", x.mark(0, true), true);
                Bound.areCounts(x, 4, 2, 3, 3, 0, 0, 0, 3, 0, 0, 0, 0, 0, 0);
                Due.is("late by", x.walker(0, 2), 0);
            }
        });
        Bound.of(28, "nothing can be undone when one is gone back to", () -> {
            HillClock x = Due.told(TWO);
            x.snow();
            x.mark(0, false);
            Due.is("laid", x.count(12), 1);
            Due.is("back", x.mark(0, true), true);
            Due.is("gone back to", x.count(12), 0);
            Due.is("undo", x.undo(), false);
            Due.is("snow", x.count(8), 1);
        });
    }

    private static HillClock marked() {
        HillClock x = Due.told(TWO);
        x.day();
        x.late(1, 20);
        x.dies(0);
        x.deputy(0, 1);
        x.snow();
        Due.is("days", Due.days(x, "late x 4;day;"), 0);
        x.see(1, 1, true);
        x.tell(1, 20);
        x.mark(1, false);
        return x;
    }

    private static void marksHold() {
        Bound.of(28, "a mark holds the day, who is late, dead, deputies, snow, what was missed", () -> {
            HillClock x = marked();
            x.day();
            x.late(1, 30);
            x.undo();
            x.undo();
            x.undo();
            x.undo();
            x.undo();
            x.undo();
            Bound.areCounts(x, 4, 2, 3, 3, 0, 1, 479, 3, 0);
            Due.is("back", x.mark(1, true), true);
            Bound.areCounts(x, 4, 2, 3, 3, 0, 1, 479, 2, 1);
            Due.is("by", x.hour(0, 0), 1);
            Due.is("late by", x.walker(1, 2), 20);
            x.day();
            x.mark(1, true);
            Bound.areCounts(x, 4, 2, 3, 3, 0, 1, 479, 2, 1);
        });
        Bound.of(28, "a mark holds the days", () -> {
            HillClock x = marked();
            Due.is("days", Due.days(x, "day;day;day;"), 0);
            x.mark(1, true);
            Due.is("lines", x.count(9), 2);
            Due.is("judged", x.judged(2), 4 + 239 + 240);
        });
        Bound.of(28, "a mark holds what is seen", () -> {
            HillClock x = marked();
            x.see(1, 1, false);
            x.see(1, 2, true);
            Due.is("times", x.times(0), 0);
            x.mark(1, true);
            Due.is("seen", x.count(10), 1);
            Due.is("times", x.times(1), 20);
        });
        Bound.of(28, "a mark holds what is seen: whom, where, that he is or is not", () -> {
            HillClock x = Due.told(TWO);
            x.mark(0, false);
            x.see(0, 0, true);
            x.mark(1, false);
            x.mark(0, true);
            x.see(1, 1, true);
            x.mark(2, false);
            x.mark(0, true);
            x.see(0, 1, false);
            Due.is("not at b", x.times(2), 14);
            x.mark(2, true);
            Due.is("y at b", x.times(0), 240);
            x.mark(1, true);
            Due.is("at a", x.times(0), 1);
            Due.is("in minute 10", x.times(1), 10);
        });
        Bound.of(28, "a mark holds what is told", () -> {
            HillClock x = marked();
            x.tell(1, 0);
            x.tell(0, 3);
            x.mark(1, true);
            Due.is("told", x.count(11), 1);
            Due.is("sets", x.sets(1, 0), 2);
            Due.is("in some", x.sets(1, 2), 1);
        });
        Bound.of(28, "a mark does not hold the tape", () -> {
            HillClock x = Due.told(TWO);
            x.mark(0, false);
            x.feed('a', 'b', 'c');
            x.mark(0, true);
            Due.is("signs", x.count(13), 3);
        });
    }

    private static void full() {
        Bound.of(5, "six places: the last one", () -> {
            HillClock x = Due.told(Bound.FULL);
            Due.is("to itself", x.way(5, 5), 0);
            Due.is("way", x.way(4, 5), 7);
            Due.is("none", x.way(5, 0), -1);
            Due.is("others", x.way(5, 6), -1);
        });
        Bound.of(6, "six walkers: the last one", () -> {
            HillClock x = Due.told(Bound.FULL);
            Due.is("kind", x.walker(5, 0), 3);
            Due.is("round", x.walker(5, 4), 4);
            Due.is("others", x.walker(6, 0), -1);
        });
        Bound.of(7, "six walkers at six places: the last one", () -> {
            isAt(Due.told(Bound.FULL), 5, 5, 230, 230, 4, 237, 239);
            Due.is("others", Due.told(Bound.FULL).where(6, 239), -1);
        });
        Bound.of(8, "six hours: the last one", () -> {
            HillClock x = Due.told(Bound.FULL);
            int[] due = {5, 4, 239, 237, 2, 2};
            for (int what = 0; what < 6; what++) {
                Due.is("what " + what, x.hour(5, what), due[what]);
            }
            Due.is("others", x.hour(6, 0), -2);
        });
        Bound.of(9, "six walkers: the last two, at the last place", () -> {
            HillClock x = Due.told(Bound.FULL);
            Due.is("minute", x.meet(4, 5, 0), 230);
            Due.is("place", x.meet(5, 4, 1), 5);
            Due.is("s and u", x.meet(5, 3, 0), 230);
            Due.is("never", x.meet(5, 0, 0), -1);
        });
        Bound.of(12, "six hours, six walkers: the last one", () -> {
            HillClock x = Due.told(Bound.FULL);
            Due.is("not of his round", x.deputy(5, 4), false);
            Due.is("of his round", x.deputy(5, 3), true);
            Due.is("the last walker", x.deputy(4, 5), true);
            Due.is("off", x.hour(4, 4), 226);
        });
        Bound.of(14, "six walkers: all are late and none the next day", () -> {
            HillClock x = Due.told(Bound.FULL);
            for (int walker = 0; walker < 6; walker++) {
                Due.is("late", x.late(walker, 10 + walker), true);
            }
            Due.is("cost", x.day(), 10 + 10 + 10 + 17 + 10 + 240);
            for (int walker = 0; walker < 6; walker++) {
                Due.is("late", x.walker(walker, 2), 0);
            }
            Due.is("cost", x.day(), 1 + 2 + 4 + 4 + 2);
        });
        Bound.of(16, "six walkers: the last ones judged", () ->
            areJudged(Due.told(Bound.FULL), "late u 3;day;dies u;deputy hu u;deputy hu s;day;dies u;", 3, 1, 13 - 2 + 240 + 11 + 239));
    }

    private static void counts() {
        Bound.of(29, "none for another what", () -> {
            HillClock x = Due.told(TWO);
            for (int what : new int[] {-1, 14, 15, MAX, MIN}) {
                Due.is("what " + what, x.count(what), -1);
            }
        });
        Bound.of(29, "each count as full as it can be", () -> {
            StringBuilder text = new StringBuilder("place a;place b;place c;place d;place e;place f;");
            for (char one = 'b'; one <= 'f'; one++) {
                for (char other = 'a'; other < one; other++) {
                    text.append("path ").append(one).append(' ').append(other).append(" 9;");
                }
            }
            for (char name = 'p'; name <= 'u'; name++) {
                text.append("walker ").append(name).append(" plain start 0 pace 1 halt 0 round a b;");
                text.append("hour h").append(name).append(" by ").append(name).append(" at a is 0;");
            }
            for (char name = 'p'; name <= 'u'; name++) {
                text.append("waits ").append(name).append(" at a for ").append(name == 'p' ? 'q' : 'p').append(" 9;");
            }
            HillClock x = Due.told(text.toString());
            Due.is("days", Due.days(x, "day;day;day;day;day;day;day;day;day;day;day;day;day;day;day;"
                + "day;day;day;day;day;day;day;day;day;day;day;day;day;day;day;"), 0);
            for (int i = 0; i < 20; i++) {
                x.see(0, 0, true);
                x.tell(i % 6, 0);
                x.day();
            }
            x.snow();
            Bound.areCounts(x, 6, 6, 6, 15, 6, 20, 0, 63, 1, 30, 8, 6, 16, 0);
        });
        Bound.of(29, "nothing told: all are 0", () -> Bound.areCounts(Due.told(""), 0, 0, 0, 0, 0, 0, 0, 0, 0, 0, 0, 0, 0, 0));
    }
}
