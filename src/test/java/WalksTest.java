/** Promises 5 to 16, 28 and 29: ways, walkers, hours, meetings, what is done by hand, days judged, marks, counts. */
public final class WalksTest {
    private static final String HILLS = "place a;place b;place c;place d;path a b 5;path b c 4;path c a 20;"
        + "walker p plain start 10 pace 2 halt 3 round a b c;walker s slow start 0 pace 1 halt 0 round c b a;"
        + "walker i idle start 20 pace 1 halt 4 round b a;walker k brisk start 100 pace 1 halt 1 round a c a;"
        + "walker n plain start 5 pace 1 halt 0 round a d;"
        + "hour noon by p at b is 30;hour tea by k at c is 100;hour end by n at d is 7;";
    private static final int MAX = Integer.MAX_VALUE;
    private static final int MIN = Integer.MIN_VALUE;

    private WalksTest() {
    }

    public static void main(String[] args) {
        ways();
        walkers();
        places();
        snowOnTheWay();
        waiting();
        hours();
        meetings();
        lateAndDead();
        deputies();
        daysPass();
        undone();
        judged();
        marks();
        counts();
        Due.end();
    }

    private static void ways() {
        HillClock x = Due.told(HILLS);
        Due.is("a path", x.way(0, 1), 5);
        Due.is("over another place", x.way(0, 2), 9);
        Due.is("the other way", x.way(2, 0), 9);
        Due.is("to itself", x.way(3, 3), 0);
        Due.is("none", x.way(0, 3), -1);
        Due.is("no place", x.way(0, 4), -1);
        Due.is("no place to itself", x.way(4, 4), -1);
        Due.is("below", x.way(-1, 0), -1);
        Due.is("far", x.way(MAX, MIN), -1);
    }

    private static void walkers() {
        HillClock x = Due.told(HILLS);
        for (int w = 0; w < 4; w++) {
            Due.is("kind " + w, x.walker(w, 0), w);
        }
        Due.is("alive", x.walker(0, 1), 1);
        Due.is("late by", x.walker(0, 2), 0);
        Due.is("first of the round", x.walker(1, 3), 2);
        Due.is("last of the round", x.walker(1, 5), 0);
        Due.is("beyond the round", x.walker(1, 6), -1);
        Due.is("beyond a short round", x.walker(2, 5), -1);
        Due.is("what below", x.walker(0, -1), -1);
        Due.is("what far", x.walker(0, MAX), -1);
        Due.is("what far below", x.walker(0, MIN), -1);
        Due.is("no walker", x.walker(5, 0), -1);
        Due.is("walker below", x.walker(-1, 0), -1);
        x.dies(0);
        x.late(0, 60);
        Due.is("dead", x.walker(0, 1), 0);
        Due.is("a dead one is late", x.walker(0, 2), 60);
        Due.is("a dead one's kind", x.walker(0, 0), 0);
    }

    private static void isAt(HillClock x, int walker, int place, int from, int to) {
        for (int minute = from; minute <= to; minute++) {
            Due.is("where " + walker + " " + minute, x.where(walker, minute), place);
        }
    }

    private static void places() {
        HillClock x = Due.told(HILLS);
        isAt(x, 0, -1, 0, 9);
        isAt(x, 0, 0, 10, 13);
        isAt(x, 0, -1, 14, 22);
        isAt(x, 0, 1, 23, 26);
        isAt(x, 0, -1, 27, 33);
        isAt(x, 0, 2, 34, 239);
        isAt(x, 1, 2, 0, 0);
        isAt(x, 1, -1, 1, 7);
        isAt(x, 1, 1, 8, 8);
        isAt(x, 1, -1, 9, 17);
        isAt(x, 1, 0, 18, 239);
        isAt(x, 2, 1, 20, 28);
        isAt(x, 2, -1, 29, 32);
        isAt(x, 2, 0, 33, 239);
        isAt(x, 3, 0, 100, 101);
        isAt(x, 3, 2, 110, 111);
        isAt(x, 3, 0, 120, 239);
        isAt(x, 4, -1, 0, 4);
        isAt(x, 4, 0, 5, 239);
        Due.is("minute below", x.where(1, -1), -1);
        Due.is("minute beyond", x.where(1, 240), -1);
        Due.is("no walker", x.where(5, 10), -1);
        Due.is("walker below", x.where(-1, 10), -1);
    }

    private static void snowOnTheWay() {
        HillClock x = Due.told(HILLS);
        x.snow();
        isAt(x, 0, 0, 10, 13);
        isAt(x, 0, -1, 14, 32);
        isAt(x, 0, 1, 33, 36);
        isAt(x, 0, 2, 52, 239);
        isAt(x, 1, 1, 16, 16);
        isAt(x, 1, 0, 36, 239);
        isAt(x, 2, 0, 38, 239);
        isAt(x, 3, 2, 110, 111);
        isAt(x, 3, 0, 120, 239);
    }

    private static HillClock waits(String walkersAndWaits) {
        return Due.told("place a;place b;path a b 10;" + walkersAndWaits);
    }

    private static void waiting() {
        String two = "walker x plain start 0 pace 1 halt 2 round a b a;walker y plain start 30 pace 1 halt 0 round b a;";
        HillClock x = waits(two + "waits x at b for y 60;");
        isAt(x, 0, 0, 0, 2);
        isAt(x, 0, 1, 12, 30);
        isAt(x, 0, -1, 31, 39);
        isAt(x, 0, 0, 40, 239);
        x.dies(1);
        isAt(x, 0, 1, 12, 72);
        isAt(x, 0, -1, 73, 81);
        isAt(x, 0, 0, 82, 239);
        x = waits(two + "waits x at b for y 60;");
        x.late(1, 42);
        Due.is("met in the last minute of it", x.where(0, 72), 1);
        Due.is("met, and goes", x.where(0, 82), 0);
        x.late(1, 43);
        Due.is("waits no longer", x.where(0, 73), -1);
        Due.is("they miss each other", x.meet(0, 1, 1), 0);
        x = waits(two + "waits x at b for y 10;");
        isAt(x, 0, 1, 12, 22);
        isAt(x, 0, 0, 32, 239);
        x = waits(two + "waits x at b for y 1;");
        isAt(x, 0, 1, 12, 14);
        Due.is("his halt is longer", x.where(0, 15), -1);
        x = waits(two + "waits x at b for y 60;waits y at b for x 5;");
        Due.is("each met the other", x.where(1, 40), 0);
        Due.is("both go", x.where(0, 31), -1);
        x = waits("walker x plain start 0 pace 1 halt 0 round b a b a;walker y plain start 0 pace 1 halt 0 round b a;"
            + "waits x at b for y 15;");
        isAt(x, 0, 1, 0, 0);
        isAt(x, 0, 0, 10, 10);
        isAt(x, 0, 1, 20, 35);
        isAt(x, 0, 0, 45, 239);
        x = waits("walker x idle start 0 pace 1 halt 5 round b a;walker y plain start 3 pace 1 halt 0 round b a;"
            + "waits x at b for y 60;");
        isAt(x, 0, 1, 0, 10);
        Due.is("met, and rested", x.where(0, 20), 0);
    }

    private static void hours() {
        HillClock x = Due.told(HILLS);
        int[][] due = {{0, 1, 30, 23, 7, 7}, {3, 2, 100, 110, 10, 10}, {4, 3, 7, -1, 240, 240}};
        for (int h = 0; h < 3; h++) {
            for (int what = 0; what < 6; what++) {
                Due.is("hour " + h + " " + what, x.hour(h, what), due[h][what]);
            }
        }
        Due.is("no hour", x.hour(3, 0), -2);
        Due.is("hour below", x.hour(-1, 0), -2);
        Due.is("what below", x.hour(0, -1), -2);
        Due.is("what beyond", x.hour(0, 6), -2);
        Due.is("far", x.hour(MAX, MIN), -2);
        x = Due.told("place a;place b;path a b 9;walker w plain start 200 pace 1 halt 30 round a b a;hour h by w at a is 0;"
            + "hour i by w at b is 239;hour j by w at b is 238;");
        Due.is("the first time there", x.hour(0, 3), 200);
        Due.is("in the last minute", x.hour(1, 3), 239);
        Due.is("in time", x.hour(1, 4), 0);
        x.late(0, 1);
        Due.is("not on that day", x.hour(1, 3), -1);
        Due.is("off then", x.hour(2, 4), 240);
        x.late(0, 40);
        Due.is("starts too late", x.hour(0, 3), -1);
        x.late(0, 39);
        Due.is("starts just in time", x.hour(0, 3), 239);
    }

    private static void meetings() {
        HillClock x = Due.told(HILLS);
        Due.is("p and i", x.meet(0, 2, 0), 23);
        Due.is("p and i where", x.meet(0, 2, 1), 1);
        Due.is("i and p", x.meet(2, 0, 0), 23);
        Due.is("p and n", x.meet(0, 4, 0), 10);
        Due.is("p and s", x.meet(0, 1, 0), -1);
        Due.is("p and s where", x.meet(0, 1, 1), -1);
        Due.is("p and k", x.meet(0, 3, 0), 110);
        Due.is("p and k where", x.meet(0, 3, 1), 2);
        Due.is("the same", x.meet(1, 1, 0), -2);
        Due.is("what", x.meet(0, 1, 2), -2);
        Due.is("what below", x.meet(0, 1, -1), -2);
        Due.is("no walker", x.meet(0, 5, 0), -2);
        Due.is("walker below", x.meet(-1, 0, 0), -2);
        x.dies(2);
        Due.is("a dead one", x.meet(0, 2, 0), -1);
        x = Due.told("place a;place b;path a b 9;walker v plain start 5 pace 1 halt 1 round a b;"
            + "walker w plain start 6 pace 1 halt 0 round a b;walker z plain start 7 pace 1 halt 0 round a b;");
        Due.is("in the minute in which he goes", x.meet(0, 1, 0), 6);
        Due.is("gone", x.meet(0, 2, 0), 16);
    }

    private static void lateAndDead() {
        HillClock x = Due.told(HILLS);
        Due.is("late", x.late(0, 60), true);
        Due.is("so late", x.walker(0, 2), 60);
        isAt(x, 0, -1, 14, 69);
        isAt(x, 0, 0, 70, 73);
        Due.is("late anew", x.late(0, 0), true);
        isAt(x, 0, 0, 10, 13);
        Due.is("too late", x.late(0, 61), false);
        Due.is("early", x.late(0, -1), false);
        Due.is("no walker", x.late(5, 1), false);
        Due.is("walker below", x.late(-1, 1), false);
        Due.is("dies", x.dies(0), true);
        Due.is("dies again", x.dies(0), false);
        Due.is("nobody dies", x.dies(5), false);
        Due.is("nobody dies below", x.dies(-1), false);
        Due.is("a dead one can be late", x.late(0, 5), true);
        isAt(x, 0, -1, 0, 239);
        Due.is("alive", x.count(7), 30);
        Due.is("his hour", x.hour(0, 3), -1);
        Due.is("can be undone", x.count(12), 4);
        Due.is("snow", x.snow(), true);
        Due.is("snow in snow", x.snow(), false);
        Due.is("can be undone too", x.count(12), 5);
    }

    private static void deputies() {
        HillClock x = Due.told(HILLS);
        Due.is("it is his", x.deputy(0, 0), false);
        Due.is("not of his round", x.deputy(0, 3), false);
        Due.is("no hour", x.deputy(3, 0), false);
        Due.is("hour below", x.deputy(-1, 0), false);
        Due.is("no walker", x.deputy(0, 5), false);
        Due.is("walker below", x.deputy(0, -1), false);
        Due.is("a deputy", x.deputy(0, 2), true);
        Due.is("by whom", x.hour(0, 0), 2);
        Due.is("when", x.hour(0, 3), 20);
        Due.is("it is his now", x.deputy(0, 2), false);
        x.dies(1);
        Due.is("by a dead one", x.deputy(0, 1), false);
        x.day();
        Due.is("from then on", x.hour(0, 0), 2);
        Due.is("back to the first", x.deputy(0, 0), true);
        x.dies(0);
        Due.is("his still, though dead", x.hour(0, 0), 0);
        Due.is("done so often", x.count(12), 5);
    }

    private static void daysPass() {
        HillClock x = Due.told(HILLS + "missed off+days*100;");
        x.late(0, 4);
        Due.is("first day", x.day(), 3 + 10 + 240);
        Due.is("nobody is late", x.walker(0, 2), 0);
        Due.is("next day", x.count(5), 1);
        Due.is("missed", x.count(6), 253);
        x.snow();
        x.dies(3);
        Due.is("second day", x.day(), 103 + 340 + 340);
        Due.is("no snow", x.count(8), 0);
        Due.is("missed together", x.count(6), 253 + 783);
        Due.is("dead for good", x.count(7), 23);
        HillClock y = new HillClock();
        Due.is("a day without hills", y.day(), 0);
        Due.is("its day", y.count(5), 1);
    }

    private static void undone() {
        HillClock x = Due.told(HILLS);
        x.late(0, 7);
        x.late(0, 9);
        x.snow();
        x.dies(1);
        x.deputy(0, 2);
        x.see(0, 0, true);
        x.tell(0, 5);
        x.day();
        Due.is("six", x.count(12), 6);
        Due.is("undo day", x.undo(), true);
        Due.is("day", x.count(5), 0);
        Due.is("missed", x.count(6), 0);
        Due.is("snow again", x.count(8), 1);
        Due.is("late again", x.walker(0, 2), 9);
        Due.is("seen stays", x.count(10), 1);
        Due.is("told stays", x.count(11), 1);
        Due.is("undo deputy", x.undo(), true);
        Due.is("by", x.hour(0, 0), 0);
        Due.is("undo dies", x.undo(), true);
        Due.is("alive", x.count(7), 31);
        Due.is("undo snow", x.undo(), true);
        Due.is("no snow", x.count(8), 0);
        Due.is("undo late", x.undo(), true);
        Due.is("late before", x.walker(0, 2), 7);
        Due.is("undo the first", x.undo(), true);
        Due.is("not late", x.walker(0, 2), 0);
        Due.is("nothing", x.undo(), false);
        for (int i = 1; i <= 20; i++) {
            x.late(0, i);
        }
        Due.is("the last 16", x.count(12), 16);
        for (int i = 19; i >= 4; i--) {
            Due.is("undo " + i, x.undo(), true);
            Due.is("late then", x.walker(0, 2), i);
        }
        Due.is("no more", x.undo(), false);
        x.late(0, 5);
        Due.is("again", x.undo(), true);
        Due.is("late again", x.walker(0, 2), 4);
    }

    private static void judged() {
        HillClock x = Due.told(HILLS.replace("hour end by n at d is 7;", ""));
        x.day();
        x.dies(0);
        x.late(1, 5);
        int missed = x.count(6);
        Due.is("nothing", x.judged(0), -1);
        Due.is("no none", x.judged(1), -1);
        Due.is("no days", x.judged(2), 0);
        Due.days(x, "late p 4;day;snow;day;");
        Due.is("all can", x.judged(0), -1);
        Due.is("no hour is none", x.judged(1), -1);
        Due.is("missed", x.judged(2), 3 + 10 + 3 + 10);
        Due.days(x, "snow;day;snow;late p 1;snow;day;");
        Due.is("snow in snow", x.judged(0), 4);
        Due.is("left out", x.judged(2), 13 + 14);
        Due.days(x, "dies p;deputy noon p;deputy noon k;deputy noon s;deputy noon s;day;dies s;day;dies s;late s 3;day;");
        Due.is("deputy by a dead one", x.judged(0), 1);
        Due.is("an hour is none", x.judged(1), 7);
        Due.is("its cost", x.judged(2), 22 + 10 + 2 * 250);
        Due.days(x, "deputy tea k;");
        Due.is("is it already", x.judged(0), 0);
        Due.days(x, "dies p;dies p;day;day;");
        Due.is("dies again", x.judged(0), 1);
        Due.is("the first day", x.judged(1), 2);
        Due.is("what below", x.judged(-1), -2);
        Due.is("what beyond", x.judged(3), -2);
        Due.is("judging changes nothing", x.count(6), missed);
        Due.is("nor the dead", x.count(7), 30);
        Due.is("nor who is late", x.walker(1, 2), 5);
        Due.is("nor what can be undone", x.count(12), 3);
    }

    private static void marks() {
        HillClock x = Due.told(HILLS);
        Due.is("no mark", x.mark(4, false), false);
        Due.is("below", x.mark(-1, false), false);
        Due.is("below back", x.mark(-1, true), false);
        Due.is("nothing is on it", x.mark(1, true), false);
        x.late(0, 6);
        x.see(0, 0, true);
        Due.days(x, "day;day;");
        x.tell(1, 9);
        Due.is("laid", x.mark(1, false), true);
        Due.is("undo stays", x.count(12), 1);
        x.day();
        x.dies(2);
        x.snow();
        x.deputy(0, 1);
        x.see(1, 1, false);
        x.tell(1, 10);
        x.tell(0, 10);
        Due.days(x, "snow;");
        Due.is("laid too", x.mark(3, false), true);
        Due.is("back", x.mark(1, true), true);
        int[] then = {4, 5, 3, 3, 0, 0, 0, 31, 0, 2, 1, 1, 0, 0};
        for (int what = 0; what < then.length; what++) {
            Due.is("then count " + what, x.count(what), then[what]);
        }
        Due.is("late", x.walker(0, 2), 6);
        Due.is("by", x.hour(0, 0), 0);
        Due.is("judged", x.judged(2), 2 * 257);
        Due.is("times", x.times(1), 16);
        Due.is("told as then", x.sets(10, 0), 0);
        Due.is("nothing to undo", x.undo(), false);
        Due.is("forth", x.mark(3, true), true);
        int[] late = {4, 5, 3, 3, 0, 1, 251, 27, 1, 1, 2, 2, 0, 0};
        for (int what = 0; what < late.length; what++) {
            Due.is("late count " + what, x.count(what), late[what]);
        }
        Due.is("by another one", x.hour(0, 0), 1);
        Due.is("still on it", x.mark(1, true), true);
        x.day();
        Due.is("the mark did not change", x.mark(1, true), true);
        Due.is("its day", x.count(5), 0);
        Due.is("laid anew", x.mark(3, false), true);
        Due.is("back to it", x.mark(3, true), true);
        Due.is("as laid anew", x.count(7), 31);
    }

    private static void counts() {
        HillClock x = Due.told(HILLS + "waits p at b for s 5;");
        Due.feed(x, "abc");
        x.tell(0, -1);
        x.tell(0, 5);
        x.see(0, 0, true);
        x.see(0, 0, true);
        Due.is("signs on the tape", x.count(13), 3);
        x.snow();
        int[] due = {4, 5, 3, 3, 1, 0, 0, 31, 1, 0, 2, 1, 1, 3};
        for (int what = 0; what < due.length; what++) {
            Due.is("count " + what, x.count(what), due[what]);
        }
        Due.is("beyond", x.count(14), -1);
        Due.is("below", x.count(-1), -1);
        Due.is("far", x.count(MIN), -1);
    }
}
