/** Promises 1 to 4: a new object, the tape, hills and days told, their faults. */
public final class TextsTest {
    private static final String PLACES = "place a;place b;place c;path a b 5;";
    private static final String WALKERS = "walker x plain start 0 pace 1 halt 0 round a b;"
        + "walker y slow start 9 pace 2 halt 3 round b c;";

    private TextsTest() {
    }

    public static void main(String[] args) {
        newObject();
        feed();
        tokens();
        placesAndPaths();
        walkers();
        waitsAndHours();
        laws();
        lawValues();
        days();
        readingKeepsOrReplaces();
        Due.end();
    }

    private static void newObject() {
        HillClock x = new HillClock();
        for (int what = 0; what < 14; what++) {
            Due.is("new count " + what, x.count(what), 0);
        }
        Due.is("new undo", x.undo(), false);
        Due.is("new mark back", x.mark(0, true), false);
        Due.is("new judged", x.judged(2), 0);
    }

    private static void feed() {
        HillClock x = new HillClock();
        Due.is("feed nothing", x.feed(0, 0, 0), 0);
        Due.is("feed outside signs", x.feed(0x091F7F80FFA90D0BL, -1, 0), 0);
        Due.is("feed edges", x.feed(0x0A207E2100000000L, 0, 0x41), 5);
        x = new HillClock();
        Due.is("highest first", Due.hills(x, "place ab;"), 0);
        Due.is("a part of a long", x.feed(Due.pack("place", 0), Due.pack(" ", 0), Due.pack("c;", 0)), 8);
        Due.is("its hills", x.hills(), 0);
        Due.is("its place", x.count(0), 1);
        for (int i = 0; i < 41; i++) {
            x.feed(0x2020202020202020L, 0x2020202020202020L, 0x2020202020202020L);
        }
        Due.is("984", x.count(13), 984);
        Due.is("full", x.feed(Due.pack("place a;", 0), Due.pack("place b;", 0), Due.pack("x", 0)), 1000);
        Due.is("beyond", x.feed(Due.pack("x", 0), 0, 0), 1000);
        Due.is("hills of 1000 signs", x.hills(), 0);
        Due.is("two places", x.count(0), 2);
        Due.is("the tape is empty then", x.count(13), 0);
    }

    private static void fault(String before, String text, int kind, int at) {
        HillClock x = new HillClock();
        Due.is("hills " + before + text, Due.hills(x, before + text), kind == 0 ? 0 : kind + 16 * (before.length() + at));
        Due.is("tape behind " + text, x.count(13), 0);
    }

    private static void tokens() {
        fault("", "", 0, 0);
        fault("", " \n \n", 0, 0);
        fault("", "place\nabcdefgh\n ;", 0, 0);
        fault("", "place abcdefghi;", 1, 6);
        fault("", "place a", 1, 7);
        fault("", "place a  ", 1, 9);
        fault("", "place ", 1, 6);
        fault("", "Place a;", 1, 0);
        fault("", "place a.;", 1, 7);
        fault("", "place 1;", 1, 6);
        fault("", ";", 1, 0);
        fault("", "placeplace a;", 1, 0);
        fault("place a;place b;", "path a b5;", 0, 0);
        fault("place a;place b;", "path a b 0005;", 0, 0);
        fault("place a;place b;", "path a b 00005;", 1, 9);
        fault(PLACES, "walker w plain start 1pace 1halt 1round a b;", 0, 0);
    }

    private static void placesAndPaths() {
        String six = "place a;place b;place c;place d;place e;place f;";
        fault(six, "place g;", 5, 0);
        fault(six, "place", 5, 0);
        fault(six, "plac", 1, 0);
        fault(PLACES, "place a;", 3, 6);
        fault(PLACES + WALKERS, "place x;", 3, 6);
        for (String word : ("place path walker start pace halt round waits at for hour by is missed late dies deputy snow"
            + " day plain slow idle brisk not and or").split(" ")) {
            fault("", "place " + word + ";", 1, 6);
        }
        fault("", "place off;place none;place days;", 0, 0);
        fault("", "path a", 2, 5);
        fault("place a;", "path a b 1;", 2, 7);
        fault("place a;place b;", "path a a 1;", 3, 7);
        fault("place a;place b;", "path a is 1;", 1, 7);
        fault(PLACES, "path a b 1;", 3, 7);
        fault(PLACES, "path b a 1;", 3, 7);
        fault(PLACES, "path b c 0;", 4, 9);
        fault(PLACES, "path b c 1;", 0, 0);
        fault(PLACES, "path b c 30;", 0, 0);
        fault(PLACES, "path b c 31;", 4, 9);
        fault(PLACES, "path b c;", 1, 8);
        fault(PLACES, "path b c 1 2;", 1, 11);
    }

    private static void walkers() {
        String w = "walker w plain start 0 pace 1 halt 0 round ";
        fault(PLACES, w + "a b;", 0, 0);
        fault(PLACES, w + "a b a b;", 0, 0);
        fault(PLACES, w + "a b a b c;", 5, 51);
        fault(PLACES, w + "a b a b b;", 3, 51);
        fault(PLACES, w + "a b a b d;", 2, 51);
        fault(PLACES, w + "a b a b at;", 1, 51);
        fault(PLACES, w + "a;", 1, 44);
        fault(PLACES, w + ";", 1, 43);
        fault(PLACES, w + "a a;", 3, 45);
        fault(PLACES, w + "a w;", 2, 45);
        fault(PLACES, "walker a", 3, 7);
        fault(PLACES, "walker at", 1, 7);
        fault(PLACES, "walker w kind", 1, 9);
        fault(PLACES, "walker w idle at", 1, 14);
        fault(PLACES, "walker w idle start 239 pace 5 halt 30 round a b;", 0, 0);
        fault(PLACES, "walker w idle start 240", 4, 20);
        fault(PLACES, "walker w idle start 0 pace 0", 4, 27);
        fault(PLACES, "walker w idle start 0 pace 6", 4, 27);
        fault(PLACES, "walker w idle start 0 pace 1 halt 31", 4, 34);
        fault(PLACES, "walker w idle start 0 pace 1 halt x", 1, 34);
        StringBuilder six = new StringBuilder(PLACES);
        for (char c = 'p'; c < 'v'; c++) {
            six.append("walker ").append(c).append(" plain start 0 pace 1 halt 0 round a b;");
        }
        fault(six.toString(), "walker", 5, 0);
        fault(six.toString(), "", 0, 0);
    }

    private static void waitsAndHours() {
        String told = PLACES + WALKERS;
        fault(told, "waits x at c for y 60;", 0, 0);
        fault(told, "waits x at c for y 1;", 0, 0);
        fault(told, "waits x at c for y 0;", 4, 19);
        fault(told, "waits x at c for y 61;", 4, 19);
        fault(told, "waits x at c for x 5;", 3, 17);
        fault(told, "waits x at c for z 5;", 2, 17);
        fault(told, "waits x at z for y 5;", 2, 11);
        fault(told, "waits z at c for y 5;", 2, 6);
        fault(told, "waits a at c for y 5;", 2, 6);
        fault(told, "waits x by c for y 5;", 1, 8);
        fault(told, "waits x at c for y 5;waits x at c for y 5;", 3, 32);
        fault(told, "waits x at c for y 5;waits x at b for y 5;waits y at c for x 5;", 0, 0);
        String w = " plain start 0 pace 1 halt 0 round a b;";
        String six = told + "walker z" + w + "waits x at a for y 1;waits x at b for y 1;waits x at c for y 1;"
            + "waits y at a for x 1;waits y at b for x 1;waits y at c for x 1;";
        fault(six, "waits z at a for x 1;", 5, 0);
        fault(told, "hour h by x at b is 239;", 0, 0);
        fault(told, "hour h by x at b is 240;", 4, 20);
        fault(told, "hour h by x at c is 1;", 4, 15);
        fault(told, "hour h by x at d is 1;", 2, 15);
        fault(told, "hour h by a at b is 1;", 2, 10);
        fault(told, "hour h by h at b is 1;", 2, 10);
        fault(told, "hour x by x at b is 1;", 3, 5);
        fault(told, "hour c by x at b is 1;", 3, 5);
        fault(told, "hour h at x", 1, 7);
        fault(told, "hour h by x at b is 1;hour h", 3, 27);
        StringBuilder hours = new StringBuilder(told);
        for (char c = 'p'; c < 'v'; c++) {
            hours.append("hour ").append(c).append(" by x at b is 1;");
        }
        fault(hours.toString(), "hour w by x at b is 1;", 5, 0);
    }

    private static void laws() {
        fault("", "missed off;", 0, 0);
        fault("", "missed ;", 1, 7);
        fault("", "missed off", 1, 10);
        fault("", "missed 12345;", 1, 7);
        fault("", "missed off none;", 1, 11);
        fault("", "missed off +;", 1, 12);
        fault("", "missed 1<2<3;", 1, 10);
        fault("", "missed 1<2=3;", 1, 10);
        fault("", "missed 1<2 and 2<3 or 3=3;", 0, 0);
        fault("", "missed - 1;", 1, 7);
        fault("", "missed foo;", 1, 7);
        fault("", "missed 1 not 2;", 1, 9);
        fault("", "missed (1;", 1, 9);
        fault("", "missed 1);", 1, 8);
        fault("", "missed ();", 1, 8);
        fault("", "missed ((((1))));", 0, 0);
        fault("", "missed (((((1)))));", 5, 12);
        fault("", "missed ((((((1))))));", 5, 12);
        fault("", "missed (((((;", 1, 12);
        fault("", "missed not not not not 1;", 0, 0);
        fault("", "missed not not not not not 1;", 5, 27);
        fault("", "missed not not not not not not 1;", 5, 27);
        fault("", "missed not (not (not 1));", 5, 21);
        fault("", "missed not (not (1));", 0, 0);
        fault("", "missed not (not (not 1));", 5, 21);
        fault("", "missed 1;missed", 3, 9);
        fault("", "missed ((1+2)*(3-4))*((5)) and not 6;", 0, 0);
    }

    /** The cost of an hour that is 7 minutes off, and of one that is none, on day 2. */
    private static void law(String law, int met, int missed) {
        HillClock x = new HillClock();
        Due.is("law " + law, Due.hills(x, PLACES + "walker x plain start 3 pace 1 halt 0 round a b c;"
            + "hour h by x at b is 15;hour i by x at c is 0;" + law), 0);
        x.day();
        x.day();
        Due.is("off", x.hour(0, 4), 7);
        Due.is("off of none", x.hour(1, 4), 240);
        Due.is("cost by " + law, x.hour(0, 5), met);
        Due.is("cost of none by " + law, x.hour(1, 5), missed);
        Due.is("day by " + law, x.day(), met + missed);
    }

    private static void lawValues() {
        law("", 7, 240);
        law("missed off*2+none*100+days;", 16, 582);
        law("missed 1-2;", 0, 0);
        law("missed 9999;", 999, 999);
        law("missed 1+2*3-4-5;", 0, 0);
        law("missed 20-4-5+1;", 12, 12);
        law("missed (1+2)*3;", 9, 9);
        law("missed off<8;", 1, 0);
        law("missed off=7;", 1, 0);
        law("missed off<7;", 0, 0);
        law("missed not none;", 1, 0);
        law("missed not off+5;", 5, 5);
        law("missed not not off*5;", 5, 5);
        law("missed 1 or 0 and 0;", 0, 0);
        law("missed 0 and 0 or 5;", 1, 1);
        law("missed 2 and 4;", 1, 1);
        law("missed days*50;", 100, 100);
        law("missed 1+1<1*3;", 1, 1);
        law("missed 9999*9999*9999;", 0, 0);
        law("missed 9999*9999*43;", 999, 999);
        law("missed 9999*9999*22;", 0, 0);
    }

    private static void dayFault(String text, int kind, int at) {
        HillClock x = new HillClock();
        Due.is("hills", Due.hills(x, PLACES + WALKERS + "hour h by x at b is 1;"), 0);
        Due.is("days " + text, Due.days(x, text), kind == 0 ? 0 : kind + 16 * at);
        Due.is("tape behind " + text, x.count(13), 0);
    }

    private static void days() {
        dayFault("", 0, 0);
        dayFault("late x 0;late x 60;dies y;deputy h y;snow;day;", 0, 0);
        dayFault("late x 61;", 4, 7);
        dayFault("late x;", 1, 6);
        dayFault("late h 1;", 2, 5);
        dayFault("late at 1;", 1, 5);
        dayFault("dies z;", 2, 5);
        dayFault("dies;", 1, 4);
        dayFault("deputy x x;", 2, 7);
        dayFault("deputy h h;", 2, 9);
        dayFault("deputy h x", 1, 10);
        dayFault("snow snow;", 1, 5);
        dayFault("day", 1, 3);
        dayFault("days;", 1, 0);
        dayFault("place a;", 1, 0);
        StringBuilder thirty = new StringBuilder();
        for (int i = 0; i < 30; i++) {
            thirty.append("day;");
        }
        dayFault(thirty.toString(), 0, 0);
        dayFault(thirty + "snow", 5, 120);
        dayFault(thirty + "now", 1, 120);
        HillClock x = new HillClock();
        Due.is("days without hills", Due.days(x, "snow;day;"), 0);
        Due.is("their lines", x.count(9), 2);
        Due.is("late without hills", Due.days(x, "late x 1;"), 2 + 16 * 5);
    }

    private static void readingKeepsOrReplaces() {
        HillClock x = new HillClock();
        Due.hills(x, PLACES + WALKERS + "hour h by x at b is 1;");
        Due.days(x, "day;");
        x.late(0, 5);
        x.day();
        x.snow();
        x.dies(0);
        x.see(1, 1, true);
        x.tell(0, 5);
        x.mark(2, false);
        Due.is("a fault of hills", Due.hills(x, "place q;place q;"), 3 + 16 * 14);
        Due.is("a fault of days", Due.days(x, "snow;day"), 1 + 16 * 8);
        int[] before = {3, 2, 1, 1, 0, 1, 9, 2, 1, 1, 1, 1, 4, 0};
        for (int what = 0; what < before.length; what++) {
            Due.is("behind a fault, count " + what, x.count(what), before[what]);
        }
        Due.is("days anew", Due.days(x, "snow;day;day;"), 0);
        Due.is("lines anew", x.count(9), 3);
        Due.is("still to be undone", x.count(12), 4);
        Due.is("hills anew", Due.hills(x, PLACES + WALKERS), 0);
        int[] behind = {3, 2, 0, 1, 0, 0, 0, 3, 0, 0, 0, 0, 0, 0};
        for (int what = 0; what < behind.length; what++) {
            Due.is("behind hills, count " + what, x.count(what), behind[what]);
        }
        Due.is("no mark is there", x.mark(2, true), false);
        Due.is("nothing can be undone", x.undo(), false);
        Due.is("nothing told", Due.hills(x, ""), 0);
        Due.is("no place", x.count(0), 0);
    }
}
