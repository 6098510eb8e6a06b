/** Promises 17 to 27: what is seen and what time it can be, deputies, sure meetings, soonest, lonely, sets, rests, years. */
public final class SearchesTest {
    /** p: a 10-13, b 23-26, c 34-; s: c 0, b 8, a 18-; i: b 20-28, a 33-; k: a 100-101, c 110-111, a 120-; n: a 5-. */
    private static final String HILLS = "place a;place b;place c;place d;path a b 5;path b c 4;path c a 20;"
        + "walker p plain start 10 pace 2 halt 3 round a b c;walker s slow start 0 pace 1 halt 0 round c b a;"
        + "walker i idle start 20 pace 1 halt 4 round b a;walker k brisk start 100 pace 1 halt 1 round a c a;"
        + "walker n plain start 5 pace 1 halt 0 round a d;"
        + "hour noon by p at b is 30;hour tea by k at c is 100;hour end by n at d is 7;";
    private static final String PAIR = "place a;place b;place d;path a b 5;";
    private static final int THROWS = Due.THROWS;

    private SearchesTest() {
    }

    public static void main(String[] args) {
        seenAndTimes();
        look();
        deputies();
        deputiesShared();
        sure();
        soonest();
        lonely();
        tellAndSets();
        setsByWaiting();
        rests();
        years();
        Due.end();
    }

    private static void times(HillClock x, int many, int first, int last) {
        Due.is("times", x.times(0), many);
        Due.is("the first", x.times(1), first);
        Due.is("the last", x.times(2), last);
    }

    private static void seenAndTimes() {
        HillClock x = Due.told(HILLS);
        times(x, 240, 0, 239);
        Due.is("times below", x.times(-1), -1);
        Due.is("times beyond", x.times(3), -1);
        Due.is("nobody", x.see(5, 0, true), false);
        Due.is("below", x.see(-1, 0, true), false);
        Due.is("nowhere", x.see(0, 4, false), false);
        Due.is("place below", x.see(0, -1, false), false);
        Due.is("seen", x.see(2, 1, true), true);
        times(x, 9, 20, 28);
        Due.is("not seen", x.see(0, 1, false), true);
        times(x, 5, 20, 28);
        x.late(0, 1);
        times(x, 5, 20, 28);
        x.late(0, 3);
        times(x, 6, 20, 25);
        x.day();
        times(x, 5, 20, 28);
        for (int k = 2; k < 8; k++) {
            Due.is("seen " + k, x.see(1, 0, true), true);
        }
        Due.is("8 are seen", x.see(1, 0, true), false);
        Due.is("count", x.count(10), 8);
        x.dies(2);
        times(x, 0, -1, -1);
        x = Due.told(HILLS);
        x.see(1, 1, false);
        x.see(1, 0, false);
        x.see(1, 2, false);
        times(x, 16, 1, 17);
    }

    private static void look() {
        HillClock x = Due.told(HILLS);
        x.see(0, 1, true);
        Due.is("none parts them", x.look(), -1);
        x = Due.told(HILLS);
        x.see(2, 1, true);
        Due.is("at b, 5 are alike of 9", x.look(), 1);
        x.see(0, 3, true);
        Due.is("no times", x.look(), -1);
        x = Due.told("place a;place b;path a b 9;walker v plain start 0 pace 1 halt 0 round a b;");
        Due.is("b: nobody 9, v 231; a: v 1, nobody 239", x.look(), 1);
        x.see(0, 0, true);
        Due.is("one time", x.look(), -1);
        x = Due.told("place a;place b;place d;walker v plain start 80 pace 1 halt 0 round a d;"
            + "walker w plain start 80 pace 1 halt 0 round b d;");
        Due.is("of equal ones the first", x.look(), 0);
    }

    private static void row(HillClock x, int off, int... who) {
        Due.is("deputies off", x.deputies(-1), off);
        for (int h = 0; h < who.length; h++) {
            Due.is("deputies " + h, x.deputies(h), who[h]);
        }
    }

    private static void deputies() {
        HillClock x = Due.told(HILLS);
        row(x, 0, -1, -1, -1);
        Due.is("no hour", x.deputies(3), -2);
        Due.is("below", x.deputies(-2), -2);
        x.dies(0);
        row(x, 10, 2, -1, -1);
        x.dies(3);
        row(x, 110, 2, 1, -1);
        x.late(1, 30);
        row(x, 80, 2, 1, -1);
        x.deputy(0, 1);
        row(x, 70, -1, 1, -1);
        x.undo();
        x.dies(4);
        row(x, -2, -2, -2, -2);
        Due.is("nothing changed", x.hour(0, 0), 0);
    }

    private static void deputiesShared() {
        String three = PAIR + "walker x plain start 0 pace 1 halt 0 round a b;walker y plain start 3 pace 1 halt 0 round a b;"
            + "walker z plain start 9 pace 1 halt 0 round b a;";
        HillClock x = Due.told(three + "hour h by x at a is 3;hour i by x at a is 4;");
        x.dies(0);
        row(x, 10, 1, 2);
        x = Due.told(three + "hour h by x at a is 14;hour i by x at b is 9;");
        x.dies(0);
        row(x, 1, 2, 1);
        x = Due.told(three + "hour h by x at a is 3;hour i by x at a is 4;hour j by x at a is 5;");
        x.dies(0);
        row(x, -2, -2, -2, -2);
        x = Due.told(three + "walker u plain start 9 pace 1 halt 0 round b a;hour h by x at b is 9;");
        x.dies(0);
        row(x, 0, 2);
        x.dies(2);
        row(x, 0, 3);
        x.late(3, 60);
        row(x, 1, 1);
        x = Due.told(PAIR + "walker x plain start 0 pace 1 halt 0 round a b;walker y plain start 0 pace 1 halt 0 round a d;"
            + "hour h by y at d is 5;hour i by x at b is 5;");
        x.dies(0);
        row(x, -2, -2, -2);
        x = Due.told(PAIR + "walker x plain start 0 pace 1 halt 0 round a d;walker y plain start 0 pace 1 halt 0 round a d;"
            + "hour h by y at d is 5;");
        x.dies(1);
        row(x, 240, 0);
    }

    private static void sure(HillClock x, int one, int other, int place, int minute) {
        Due.is("sure " + one + " " + other, x.sure(one, other, 0), place);
        Due.is("sure when " + one + " " + other, x.sure(one, other, 1), minute);
    }

    private static void sure() {
        HillClock x = Due.told(HILLS);
        sure(x, 0, 4, 0, 10);
        sure(x, 0, 2, -1, -1);
        sure(x, 1, 2, 0, 38);
        sure(x, 2, 1, 0, 38);
        sure(x, 0, 3, 2, 110);
        sure(x, 0, 0, -1, -1);
        sure(x, 0, 5, -1, -1);
        sure(x, -1, 0, -1, -1);
        Due.is("what", x.sure(0, 4, 2), -1);
        Due.is("what below", x.sure(0, 4, -1), -1);
        x.snow();
        sure(x, 1, 2, 0, 38);
        Due.is("snow stays", x.count(8), 1);
        x.late(4, 9);
        sure(x, 0, 4, -1, -1);
        x.late(4, 7);
        sure(x, 0, 4, 0, 12);
        x.dies(4);
        sure(x, 0, 4, -1, -1);
    }

    private static void soonest() {
        HillClock x = Due.told(HILLS);
        Due.is("p comes", x.soonest(0, 0, 1), 10);
        Due.is("there already", x.soonest(0, 13, 1), 13);
        Due.is("p is gone", x.soonest(0, 14, 1), 23);
        Due.is("nobody comes", x.soonest(3, 0, 1), -1);
        Due.is("s at once", x.soonest(2, 0, 2), 0);
        Due.is("s at b", x.soonest(2, 1, 2), 8);
        Due.is("s at b, just", x.soonest(2, 4, 2), 8);
        Due.is("s at a", x.soonest(2, 5, 2), 18);
        Due.is("s at b, then n and p", x.soonest(0, 0, 19), 13);
        Due.is("s, p on the way back", x.soonest(2, 1, 3), 13);
        Due.is("all", x.soonest(0, 0, 31), 100);
        Due.is("none of them", x.soonest(3, 239, 0), 239);
        Due.is("minute beyond", x.soonest(0, 240, 0), -1);
        Due.is("minute below", x.soonest(0, -1, 0), -1);
        Due.is("no place", x.soonest(4, 0, 0), -1);
        Due.is("place below", x.soonest(-1, 0, 0), -1);
        Due.is("no walker", x.soonest(0, 0, 32), -1);
        Due.is("below", x.soonest(0, 0, -1), -1);
        Due.is("too late a minute", x.soonest(2, 239, 16), -1);
        Due.is("in the last minute", x.soonest(1, 234, 16), 239);
        Due.is("just too late", x.soonest(1, 235, 16), -1);
        x.snow();
        Due.is("s at b in snow", x.soonest(2, 8, 2), 16);
        Due.is("s at a in snow", x.soonest(2, 9, 2), 36);
        x.dies(1);
        Due.is("s is dead", x.soonest(2, 0, 2), -1);
        Due.is("without hills", new HillClock().soonest(0, 0, 0), -1);
    }

    private static void lonely(HillClock x, int many, int from) {
        Due.is("lonely", x.lonely(0), many);
        Due.is("lonely from", x.lonely(1), from);
    }

    private static void lonely() {
        HillClock x = Due.told(HILLS);
        lonely(x, 10, 0);
        Due.is("what", x.lonely(2), -1);
        Due.is("what below", x.lonely(-1), -1);
        x.dies(4);
        lonely(x, 23, 0);
        x.dies(0);
        lonely(x, 33, 0);
        x.late(2, 60);
        lonely(x, 93, 0);
        x.dies(1);
        lonely(x, 100, 0);
        x.dies(2);
        lonely(x, 240, 0);
        String stays = PAIR + "walker v plain start 0 pace 1 halt 0 round a d;";
        x = Due.told(stays + "walker w plain start 9 pace 1 halt 0 round a b a;");
        lonely(x, 9, 0);
        x.late(0, 9);
        lonely(x, 9, 0);
        x.late(0, 10);
        lonely(x, 19, 0);
        x = Due.told(stays + "walker w plain start 0 pace 2 halt 0 round a b a;");
        lonely(x, 19, 1);
        x = Due.told(stays + "walker w plain start 0 pace 2 halt 0 round a d;");
        lonely(x, -1, -1);
    }

    private static void sets(HillClock x, int minutes, int many, int all, int some, int least) {
        Due.is("sets", x.sets(minutes, 0), many);
        Due.is("in all", x.sets(minutes, 1), all);
        Due.is("in some", x.sets(minutes, 2), some);
        Due.is("the least", x.sets(minutes, 3), least);
    }

    private static void tellAndSets() {
        HillClock x = Due.told(HILLS);
        sets(x, 10, 32, 0, 31, 0);
        Due.is("no hour", x.tell(3, 0), false);
        Due.is("hour below", x.tell(-1, 0), false);
        Due.is("minute beyond", x.tell(0, 240), false);
        Due.is("minute below", x.tell(0, -2), false);
        Due.is("nothing told", x.count(11), 0);
        Due.is("told", x.tell(0, 33), true);
        sets(x, 10, 16, 1, 31, 1);
        sets(x, 9, 0, -1, -1, -1);
        x.tell(1, 110);
        sets(x, 10, 8, 1, 23, 1);
        x.tell(2, -1);
        sets(x, 10, 8, 1, 23, 1);
        Due.is("three told", x.count(11), 3);
        x.tell(0, 23);
        sets(x, 10, 8, 0, 22, 0);
        x.tell(0, 239);
        x.tell(0, 0);
        sets(x, 60, 0, -1, -1, -1);
        x.tell(0, 33);
        x.late(0, 5);
        sets(x, 5, 8, 1, 23, 1);
        Due.is("minutes below", x.sets(0, 0), -1);
        Due.is("minutes beyond", x.sets(61, 0), -1);
        Due.is("what below", x.sets(5, -1), -1);
        Due.is("what beyond", x.sets(5, 4), -1);
        Due.is("nobody is later for it", x.walker(0, 2), 5);
        x.dies(0);
        x.tell(0, -1);
        sets(x, 60, 16, 0, 23, 0);
    }

    private static void setsByWaiting() {
        HillClock x = Due.told("place a;place b;path a b 10;walker x plain start 0 pace 1 halt 0 round b a;"
            + "walker y plain start 0 pace 1 halt 0 round b a;waits x at b for y 60;hour h by x at a is 0;");
        x.tell(0, 10);
        sets(x, 10, 1, 0, 0, 0);
        x.tell(0, 20);
        sets(x, 10, 2, 2, 3, 2);
        x.tell(0, 80);
        sets(x, 10, 1, 1, 1, 1);
        x.tell(0, -1);
        sets(x, 10, 0, -1, -1, -1);
        x = Due.told("place a;place b;path a b 10;walker x plain start 0 pace 1 halt 0 round b a;"
            + "walker y plain start 5 pace 1 halt 0 round b a;walker z plain start 5 pace 1 halt 9 round b a;"
            + "waits y at b for x 7;waits z at b for y 20;waits x at b for z 9;hour h by y at a is 0;hour i by z at a is 0;");
        x.tell(0, 15);
        sets(x, 1, 4, 0, 5, 0);
    }

    private static int rests(int one, int other, int gets, int what) {
        return Due.rests(new HillClock(), one, other, gets, what);
    }

    private static void rests() {
        Due.is("at one time", rests(4, 4, 0, -1), 100);
        Due.is("their first", rests(4, 4, 20, 0), 0);
        Due.is("their last", rests(4, 4, 20, 99), 99);
        Due.is("beyond", rests(4, 4, 20, 100), THROWS);
        Due.is("the first one waits", rests(0, 3, 5, -1), 70);
        Due.is("so long", rests(0, 3, 5, 0), 30);
        Due.is("and so long", rests(0, 3, 5, 69), 99);
        Due.is("the second one waits", rests(3, 0, 5, -1), 70);
        Due.is("he so long", rests(3, 0, 5, 0), 3);
        Due.is("next", rests(3, 0, 5, 7), 13);
        Due.is("all the same", rests(0, 3, 3, -1), 80);
        Due.is("not at all", rests(0, 3, 3, 9), 9);
        Due.is("or long enough", rests(0, 3, 3, 10), 30);
        Due.is("it does not pay", rests(0, 3, 2, -1), 10);
        Due.is("nothing to get", rests(9, 0, 0, -1), 10);
        Due.is("nine", rests(0, 9, 9, -1), 20);
        Due.is("twenty", rests(0, 9, 20, -1), 10);
        Due.is("twenty's first", rests(0, 9, 20, 0), 90);
        Due.is("one below", rests(-1, 0, 0, -1), THROWS);
        Due.is("one beyond", rests(10, 0, 0, -1), THROWS);
        Due.is("other below", rests(0, -1, 0, -1), THROWS);
        Due.is("other beyond", rests(0, 10, 0, -1), THROWS);
        Due.is("gets below", rests(0, 0, -1, -1), THROWS);
        Due.is("gets beyond", rests(0, 0, 21, -1), THROWS);
        Due.is("what below", rests(0, 0, 0, -2), THROWS);
        Due.is("what far", rests(0, 0, 0, Integer.MAX_VALUE), THROWS);
        Due.is("what far below", rests(0, 0, 0, Integer.MIN_VALUE), THROWS);
    }

    /** The same years, done by hand on an object of their own. */
    private static void years(HillClock x, HillClock byHand, int seed, int days) {
        int[] due = YearsByHand.sums(byHand, seed, days);
        for (int what = 0; what < 3; what++) {
            Due.is("years by " + seed + ", what " + what, x.years(seed, days, what), due[what]);
        }
    }

    private static void years() {
        for (int seed = 0; seed < 10000; seed += 1111) {
            HillClock x = Due.told(HILLS + "missed off+days*3+none;");
            HillClock byHand = Due.told(HILLS + "missed off+days*3+none;");
            for (HillClock both : new HillClock[] {x, byHand}) {
                both.day();
                both.late(0, 25);
                both.snow();
                both.dies(2);
            }
            years(x, byHand, seed, seed % 20 + 1);
            Due.is("the day is as before", x.count(5), 1);
            Due.is("and the snow", x.count(8), 1);
            Due.is("and who is late", x.walker(0, 2), 25);
            Due.is("and what can be undone", x.count(12), 4);
        }
        HillClock x = Due.told(HILLS);
        years(x, Due.told(HILLS), 9999, 20);
        Due.is("seed below", x.years(-1, 5, 0), -1);
        Due.is("seed beyond", x.years(10000, 5, 0), -1);
        Due.is("no day", x.years(0, 0, 0), -1);
        Due.is("too many days", x.years(0, 21, 0), -1);
        Due.is("what below", x.years(0, 5, -1), -1);
        Due.is("what beyond", x.years(0, 5, 3), -1);
        Due.is("without hills", new HillClock().years(1, 20, 2), 0);
    }
}
