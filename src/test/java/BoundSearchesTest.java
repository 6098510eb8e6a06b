/** Promises 17 to 27: each sentence that names a bound of what is searched for has a test. */
public final class BoundSearchesTest {
    private static final String LAND = Bound.LAND;
    private static final String TWO = Bound.TWO;
    private static final int MAX = Integer.MAX_VALUE;
    private static final int MIN = Integer.MIN_VALUE;
    private static final int THROWS = Due.THROWS;

    private BoundSearchesTest() {
    }

    public static void main(String[] args) {
        seen();
        seenStays();
        times();
        look();
        deputies();
        deputiesWithoutWay();
        deputiesOff();
        sure();
        sureLeast();
        soonest();
        soonestInTime();
        soonestOfSome();
        lonely();
        lonelyByWhom();
        told();
        sets();
        setsByTold();
        setsLeast();
        rests();
        restsByWait();
        years();
        yearsDraw();
        full();
        Bound.end(17, 18, 19, 20, 21, 22, 23, 24, 25, 26, 27);
    }

    /** A walker who is at a place from a minute on, and stays. */
    private static String stays(String name, int start, String place) {
        return "walker " + name + " plain start " + start + " pace 1 halt 0 round " + place + " d;";
    }

    private static String walks(String name, int start, int halt, String round) {
        return "walker " + name + " plain start " + start + " pace 1 halt " + halt + " round " + round + ";";
    }

    private static void seen() {
        Bound.of(17, "8 at most; false: 8 are seen", () -> {
            HillClock x = Due.told(TWO);
            for (int i = 1; i <= 8; i++) {
                Due.is("see", x.see(1, 1, true), true);
                Due.is("seen", x.count(10), i);
            }
            Due.is("a ninth", x.see(0, 1, true), false);
            Due.is("the same again", x.see(1, 1, true), false);
            Due.is("seen", x.count(10), 8);
            Due.is("the ninth is not seen", x.times(0), 240);
        });
        Bound.of(17, "all 8 are seen, the last one, too", () -> {
            HillClock x = Due.told(TWO);
            for (int i = 0; i < 7; i++) {
                x.see(1, 1, true);
            }
            x.see(0, 1, true);
            Due.is("times", x.times(1), 15);
        });
        Bound.of(17, "false: others; nothing is seen then", () -> {
            HillClock x = Due.told(TWO);
            for (int none : new int[] {-1, 2, 6, MAX, MIN}) {
                Due.is("walker " + none, x.see(none, 0, true), false);
            }
            for (int none : new int[] {-1, 4, 6, MAX, MIN}) {
                Due.is("place " + none, x.see(0, none, false), false);
            }
            Due.is("seen", x.count(10), 0);
            Due.is("the last ones", x.see(1, 3, false), true);
        });
        Bound.of(17, "each is seen by itself: the same twice, both ways, one who is dead", () -> {
            HillClock x = Due.told(TWO);
            x.dies(1);
            Due.is("he is not", x.see(1, 1, false), true);
            Due.is("he is not", x.see(1, 1, false), true);
            Due.is("all day", x.times(0), 240);
            Due.is("he is", x.see(1, 1, true), true);
            Due.is("never", x.times(0), 0);
            Due.is("seen", x.count(10), 3);
        });
    }

    private static void seenStays() {
        Bound.of(17, "what is seen anew, behind other hills or a mark, is as it is told now", () -> {
            HillClock x = Due.told(TWO);
            x.mark(0, false);
            x.see(1, 1, true);
            x.mark(0, true);
            x.see(1, 1, false);
            areTimes(x, 0, -1, -1);
            x.mark(0, true);
            x.see(1, 1, true);
            areTimes(x, 240, 0, 239);
            Due.is("hills", Due.hills(x, TWO), 0);
            x.see(1, 1, false);
            areTimes(x, 0, -1, -1);
        });
        Bound.of(17, "what is seen stays when a day passes and when something is undone", () -> {
            HillClock x = Due.told(TWO);
            x.late(0, 5);
            x.see(0, 0, true);
            Due.is("late", x.times(1), 15);
            x.day();
            Due.is("on the next day", x.times(1), 10);
            x.undo();
            Due.is("undone", x.times(1), 15);
            Due.is("seen", x.count(10), 1);
        });
    }

    private static void areTimes(HillClock x, int many, int first, int last) {
        Due.is("how many", x.times(0), many);
        Due.is("the first", x.times(1), first);
        Due.is("the last", x.times(2), last);
    }

    private static void times() {
        Bound.of(18, "none: others", () -> {
            HillClock x = Due.told(TWO);
            for (int what : new int[] {-1, -2, 3, 4, MAX, MIN}) {
                Due.is("what " + what, x.times(what), -1);
            }
        });
        Bound.of(18, "nothing seen: all minutes of the day", () -> areTimes(Due.told(TWO), 240, 0, 239));
        Bound.of(18, "none, but how many is 0", () -> {
            HillClock x = Due.told(TWO);
            x.see(0, 3, true);
            areTimes(x, 0, -1, -1);
        });
        Bound.of(18, "one minute: the first is the last, the day's first one", () -> {
            HillClock x = Due.told(LAND + walks("x", 0, 0, "a b"));
            x.see(0, 0, true);
            areTimes(x, 1, 0, 0);
        });
        Bound.of(18, "one minute: the first is the last, the day's last one", () -> {
            HillClock x = Due.told(LAND + walks("x", 239, 0, "a b"));
            x.see(0, 0, true);
            areTimes(x, 1, 239, 239);
            x.late(0, 1);
            areTimes(x, 0, -1, -1);
        });
        Bound.of(18, "all that is seen: is, and is not", () -> {
            HillClock x = Due.told(TWO);
            x.see(1, 1, true);
            areTimes(x, 240, 0, 239);
            x.see(0, 1, false);
            areTimes(x, 15, 0, 14);
            x.see(0, 0, false);
            areTimes(x, 14, 0, 14);
        });
    }

    private static void look() {
        String from120 = stays("x", 120, "a");
        Bound.of(19, "none parts them: nobody is there, or all day", () -> {
            Due.is("without hills", new HillClock().look(), -1);
            Due.is("without walkers", Due.told(LAND).look(), -1);
            Due.is("nobody comes", Due.told(LAND + stays("x", 0, "a")).look(), -1);
        });
        Bound.of(19, "none parts one time, nor none", () -> {
            HillClock x = Due.told(LAND + walks("x", 0, 0, "a b"));
            x.see(0, 0, true);
            Due.is("one", x.look(), -1);
            x.see(0, 0, false);
            Due.is("none", x.look(), -1);
        });
        Bound.of(19, "less than all: two times that a place parts", () -> {
            HillClock x = Due.told(LAND + walks("x", 0, 1, "a b") + stays("y", 1, "c"));
            x.see(0, 0, true);
            areTimes(x, 2, 0, 1);
            Due.is("at c", x.look(), 2);
        });
        Bound.of(19, "less than all: by a single minute", () ->
            Due.is("at a", Due.told(LAND + stays("x", 239, "a")).look(), 0));
        Bound.of(19, "of equal ones the first", () -> {
            Due.is("a, b", Due.told(LAND + from120 + stays("y", 120, "b")).look(), 0);
            Due.is("b, a", Due.told(LAND + stays("y", 120, "b") + from120).look(), 0);
            Due.is("c, b: 119 and 121", Due.told(LAND + stays("y", 119, "c") + stays("x", 121, "b")).look(), 1);
        });
        Bound.of(19, "the least, wherever it is", () -> {
            Due.is("a: 120, c: 140", Due.told(LAND + from120 + stays("y", 100, "c")).look(), 0);
            Due.is("a: 140, c: 120", Due.told(LAND + stays("x", 100, "a") + stays("y", 120, "c")).look(), 2);
            Due.is("the last place", Due.told(LAND + walks("x", 120, 0, "d a")).look(), 3);
        });
        Bound.of(19, "one sees who is there, not how many", () -> {
            HillClock x = Due.told("place a;place b;place c;place d;path a c 30;" + stays("x", 0, "b")
                + walks("y", 0, 30, "c a") + walks("z", 31, 30, "c a"));
            x.see(1, 0, false);
            areTimes(x, 60, 0, 59);
            Due.is("y, then z at c", x.look(), 2);
        });
    }

    private static void areDeputies(HillClock x, int off, int... who) {
        Due.is("off", x.deputies(-1), off);
        for (int hour = 0; hour < who.length; hour++) {
            Due.is("deputy of " + hour, x.deputies(hour), who[hour]);
        }
    }

    private static void deputies() {
        Bound.of(20, "-2: others", () -> {
            HillClock x = Due.told(TWO);
            for (int none : new int[] {-2, -3, 3, 4, 6, MAX, MIN}) {
                Due.is("hour " + none, x.deputies(none), -2);
            }
        });
        Bound.of(20, "no hour of one dead: off is 0; none, its own walker is alive", () -> {
            areDeputies(Due.told(TWO), 0, -1, -1, -1);
            areDeputies(new HillClock(), 0);
            areDeputies(Due.told(LAND + stays("x", 0, "a")), 0);
        });
        Bound.of(20, "none: its own walker is alive, while another hour's is dead", () -> {
            HillClock x = Due.told(TWO);
            x.dies(0);
            areDeputies(x, 15, 1, -1, -1);
        });
        Bound.of(20, "its own walker is the one by whom it is by now", () -> {
            HillClock x = Due.told(TWO);
            x.deputy(0, 1);
            x.dies(0);
            areDeputies(x, 0, -1, -1, -1);
            x.undo();
            x.undo();
            x.dies(1);
            x.deputy(1, 0);
            Due.is("j is still by y", x.deputies(-1), -2);
        });
        Bound.of(20, "six hours, five of them one dead's: each other walker has one", () -> {
            StringBuilder text = new StringBuilder(LAND + stays("p", 0, "a"));
            for (char name = 'q'; name <= 'u'; name++) {
                text.append(stays("" + name, name - 'p', "a"));
            }
            for (int i = 5; i >= 1; i--) {
                text.append("hour h").append((char) ('a' + i)).append(" by p at a is ").append(i).append(";");
            }
            HillClock x = Due.told(text + "hour hz by q at a is 0;");
            x.dies(0);
            areDeputies(x, 0, 5, 4, 3, 2, 1, -1);
            x.undo();
            x.deputy(5, 0);
            x.dies(0);
            areDeputies(x, -2, -2, -2, -2, -2, -2, -2);
        });
    }

    private static void deputiesWithoutWay() {
        Bound.of(20, "no way: nobody alive of whose round its place is", () -> {
            HillClock x = Due.told(TWO);
            x.dies(1);
            areDeputies(x, -2, -2, -2, -2);
        });
        Bound.of(20, "no way: all are dead", () -> {
            HillClock x = Due.told(TWO);
            x.dies(0);
            x.dies(1);
            areDeputies(x, -2, -2, -2, -2);
        });
        Bound.of(20, "no way: no walker for two of these", () -> {
            HillClock x = Due.told(LAND + stays("x", 0, "a") + stays("y", 3, "a") + stays("z", 0, "b")
                + "hour h by x at a is 3;hour i by x at a is 4;");
            x.dies(0);
            areDeputies(x, -2, -2, -2);
        });
        Bound.of(20, "nothing is done: the hours stay whose they are", () -> {
            HillClock x = Due.told(TWO);
            x.dies(0);
            x.deputies(0);
            Due.is("by", x.hour(0, 0), 0);
            Due.is("to be undone", x.count(12), 1);
        });
    }

    private static void deputiesOff() {
        Bound.of(20, "the least off together; of equal ones the first row", () -> {
            HillClock x = Due.told(LAND + stays("x", 0, "a") + stays("y", 3, "a") + stays("z", 14, "a")
                + "hour h by x at a is 3;hour i by x at a is 3;");
            x.dies(0);
            areDeputies(x, 11, 1, 2);
            x = Due.told(LAND + stays("x", 0, "a") + stays("y", 3, "a") + stays("z", 14, "a")
                + "hour h by x at a is 14;hour i by x at a is 3;");
            x.dies(0);
            areDeputies(x, 0, 2, 1);
        });
        Bound.of(20, "of equal ones the first walker", () -> {
            HillClock x = Due.told(LAND + stays("z", 4, "a") + stays("y", 10, "a") + stays("x", 0, "a") + "hour h by x at a is 7;");
            x.dies(2);
            areDeputies(x, 3, 0);
            x.dies(0);
            areDeputies(x, 3, 1);
        });
        Bound.of(20, "off is 240 of one who does not come, 239 at most of one who does", () -> {
            HillClock x = Due.told(LAND + stays("x", 0, "a") + stays("y", 239, "a") + stays("z", 238, "a") + "hour h by x at a is 0;");
            x.dies(0);
            areDeputies(x, 238, 2);
            x.late(2, 2);
            areDeputies(x, 239, 1);
            x.late(1, 1);
            areDeputies(x, 240, 1);
        });
        Bound.of(20, "one with an hour of his own can be another one's deputy", () -> {
            HillClock x = Due.told(LAND + stays("x", 0, "a") + stays("y", 9, "a") + "hour h by x at a is 0;hour i by y at a is 9;");
            x.dies(0);
            areDeputies(x, 9, 1, -1);
        });
        Bound.of(20, "this day: late and snow as they are", () -> {
            HillClock x = Due.told(LAND + stays("x", 0, "b") + walks("y", 0, 0, "a b") + stays("z", 7, "b") + "hour h by x at b is 0;");
            x.dies(0);
            areDeputies(x, 5, 1);
            x.late(1, 2);
            areDeputies(x, 7, 1);
            x.late(1, 0);
            x.snow();
            areDeputies(x, 7, 2);
        });
    }

    private static void isSure(HillClock x, int place, int minute) {
        Due.is("place", x.sure(0, 1, 0), place);
        Due.is("minute", x.sure(0, 1, 1), minute);
        Due.is("the other way round", x.sure(1, 0, 0), place);
        Due.is("its minute", x.sure(1, 0, 1), minute);
    }

    private static void sure() {
        Bound.of(21, "none: others, the same", () -> {
            HillClock x = Due.told(TWO);
            for (int what = 0; what < 2; what++) {
                Due.is("the same", x.sure(1, 1, what), -1);
                for (int none : new int[] {-1, 2, 6, MAX, MIN}) {
                    Due.is("one " + none, x.sure(none, 0, what), -1);
                    Due.is("other " + none, x.sure(0, none, what), -1);
                }
            }
            for (int what : new int[] {-1, 2, 3, MAX, MIN}) {
                Due.is("what " + what, x.sure(0, 1, what), -1);
            }
        });
        Bound.of(21, "none: they meet without snow alone", () -> {
            String walkers = walks("x", 0, 0, "a b") + "walker y brisk start 0 pace 1 halt 9 round b c;";
            isSure(Due.told(LAND + walkers), -1, -1);
            isSure(Due.told(LAND + walkers.replace("halt 9", "halt 10")), 1, 10);
        });
        Bound.of(21, "none: they meet in snow alone", () ->
            isSure(Due.told(LAND + walks("x", 0, 0, "a b c") + stays("y", 10, "b")), -1, -1));
        Bound.of(21, "none: they meet in one of them alone, whatever there is now", () -> {
            for (int start : new int[] {5, 10}) {
                HillClock x = Due.told(LAND + walks("x", 0, 0, "a b c") + "walker y brisk start " + start + " pace 1 halt 0 round b a;");
                isSure(x, -1, -1);
                x.snow();
                isSure(x, -1, -1);
            }
        });
        Bound.of(21, "the last minute of the day; none a minute later", () -> {
            HillClock x = Due.told(LAND + walks("x", 229, 0, "a b") + stays("y", 0, "b"));
            isSure(x, 1, 239);
            x.late(0, 1);
            isSure(x, -1, -1);
        });
        Bound.of(21, "the first minute of the day", () -> isSure(Due.told(LAND + stays("x", 0, "a") + stays("y", 0, "a")), 0, 0));
        Bound.of(21, "all else as now: late, dead; snow or not is all the same, and stays", () -> {
            HillClock x = Due.told(TWO);
            isSure(x, 1, 20);
            x.snow();
            isSure(x, 1, 20);
            Due.is("snow", x.count(8), 1);
            x.late(0, 7);
            isSure(x, 1, 27);
            x.dies(1);
            isSure(x, -1, -1);
        });
    }

    private static void sureLeast() {
        Bound.of(21, "the later one of the first minutes there", () -> {
            HillClock x = Due.told(LAND + walks("x", 0, 0, "a b a") + "walker y brisk start 0 pace 1 halt 30 round b a;");
            isSure(x, 1, 10);
        });
        String walkers = "walker x plain start 0 pace 1 halt 10 round r p q p;walker y brisk start 35 pace 1 halt 0 round p q p;"
            + "waits y at q for x 60;";
        Bound.of(21, "the place by which the later one is the least, wherever they meet first", () -> {
            isSure(Due.told("place p;place q;place r;path r p 11;path p q 1;" + walkers), 0, 43);
            isSure(Due.told("place p;place q;place r;path r p 9;path p q 1;" + walkers), 1, 40);
        });
        Bound.of(21, "of equal ones the first place", () -> {
            isSure(Due.told("place p;place q;place r;path r p 10;path p q 1;" + walkers), 0, 42);
            isSure(Due.told("place r;place q;place p;path r p 10;path p q 1;" + walkers), 1, 42);
        });
    }

    private static void soonest() {
        String x20 = LAND + walks("x", 20, 0, "a b");
        Bound.of(22, "none: others than the places, the minutes 0 to 239, bits of walkers", () -> {
            HillClock x = Due.told(x20);
            for (int none : new int[] {-1, 4, 6, MAX, MIN}) {
                Due.is("place " + none, x.soonest(none, 0, 0), -1);
            }
            for (int none : new int[] {-1, 240, MAX, MIN}) {
                Due.is("minute " + none, x.soonest(0, none, 0), -1);
            }
            for (int none : new int[] {-1, -2, 2, 3, 64, MAX, MIN, MIN + 1}) {
                Due.is("some " + none, x.soonest(0, 0, none), -1);
            }
        });
        Bound.of(22, "some is nobody: the minute itself", () -> {
            HillClock x = Due.told(x20);
            Due.is("0", x.soonest(3, 0, 0), 0);
            Due.is("239", x.soonest(3, 239, 0), 239);
            Due.is("without walkers", Due.told(LAND).soonest(0, 7, 0), 7);
            Due.is("somebody without walkers", Due.told(LAND).soonest(0, 7, 1), -1);
        });
        Bound.of(22, "some are all six", () -> {
            StringBuilder text = new StringBuilder(LAND);
            for (char name = 'p'; name <= 'u'; name++) {
                text.append(stays("" + name, name - 'p', "a"));
            }
            HillClock x = Due.told(text.toString());
            Due.is("at a", x.soonest(0, 0, 63), 5);
            Due.is("from c", x.soonest(2, 0, 63), 9);
            Due.is("beyond six", x.soonest(0, 0, 64), -1);
        });
        Bound.of(22, "not this day: from where none leads, nobody comes, one is dead", () -> {
            HillClock x = Due.told(x20 + stays("y", 0, "a"));
            Due.is("from d", x.soonest(3, 0, 1), -1);
            x.dies(0);
            Due.is("dead", x.soonest(0, 0, 1), -1);
            Due.is("both", x.soonest(0, 0, 3), -1);
            Due.is("the other one", x.soonest(0, 0, 2), 0);
        });
        Bound.of(22, "in minute 0; in minute 239", () -> {
            HillClock x = Due.told(LAND + walks("x", 0, 0, "a b") + stays("y", 239, "a"));
            Due.is("0", x.soonest(0, 0, 1), 0);
            Due.is("239", x.soonest(0, 0, 2), 239);
            Due.is("from 239 on", x.soonest(0, 239, 2), 239);
        });
    }

    private static void soonestInTime() {
        String x20 = LAND + walks("x", 20, 0, "a b");
        Bound.of(22, "from a minute on: not before, in it still", () -> {
            HillClock x = Due.told(x20);
            Due.is("waits for him", x.soonest(0, 0, 1), 20);
            Due.is("in it", x.soonest(0, 20, 1), 20);
            Due.is("goes behind him", x.soonest(0, 21, 1), 26);
            Due.is("there already", x.soonest(1, 26, 1), 26);
        });
        Bound.of(22, "by paths, minutes as told: in time, a minute too late", () -> {
            HillClock x = Due.told(x20);
            Due.is("in time", x.soonest(1, 15, 1), 20);
            Due.is("too late", x.soonest(1, 16, 1), 25);
        });
        Bound.of(22, "not this day: he would come in minute 240", () -> {
            HillClock x = Due.told(x20);
            Due.is("239", x.soonest(0, 234, 1), 239);
            Due.is("240", x.soonest(0, 235, 1), -1);
            Due.is("over b 239", x.soonest(2, 235, 1), 239);
            Due.is("over b 240", x.soonest(2, 236, 1), -1);
        });
        Bound.of(22, "twice in snow", () -> {
            HillClock x = Due.told(x20);
            x.snow();
            Due.is("goes behind him", x.soonest(0, 21, 1), 31);
            Due.is("239", x.soonest(0, 229, 1), 239);
            Due.is("240", x.soonest(0, 230, 1), -1);
            Due.is("in time", x.soonest(1, 10, 1), 20);
            Due.is("too late", x.soonest(1, 11, 1), 30);
        });
        Bound.of(22, "the longest path, of 30 minutes", () -> {
            HillClock x = Due.told("place a;place d;path a d 30;walker x slow start 0 pace 5 halt 0 round a d;");
            x.snow();
            Due.is("in snow", x.soonest(1, 0, 1), -1);
            x.undo();
            Due.is("x comes to d himself", x.soonest(1, 0, 1), 180);
        });
    }

    private static void soonestOfSome() {
        Bound.of(22, "with each of some: one behind another, in whichever order", () -> {
            HillClock x = Due.told(LAND + walks("x", 20, 0, "a b") + stays("y", 0, "c"));
            Due.is("y, and back in time", x.soonest(0, 2, 3), 20);
            Due.is("y, and no more in time", x.soonest(0, 3, 3), 25);
            Due.is("y alone", x.soonest(0, 0, 2), 9);
        });
        Bound.of(22, "may stay anywhere: for one, then for another", () -> {
            HillClock x = Due.told(LAND + walks("x", 20, 0, "a b") + walks("y", 60, 0, "a b"));
            Due.is("both at a, at b", x.soonest(0, 0, 3), 60);
            Due.is("x at b, then y", x.soonest(1, 0, 3), 60);
            Due.is("y is gone to b, too", x.soonest(0, 61, 3), 66);
        });
        Bound.of(22, "others who are met do not count", () -> {
            HillClock x = Due.told(LAND + stays("x", 0, "a") + stays("y", 50, "a") + stays("z", 70, "a"));
            Due.is("y", x.soonest(0, 0, 2), 50);
            Due.is("x, z", x.soonest(0, 0, 5), 70);
        });
        Bound.of(22, "walks by paths: where none leads he does not come, from the first place to the last", () -> {
            HillClock x = Due.told(LAND + walks("x", 0, 0, "d a"));
            for (int place = 0; place < 3; place++) {
                Due.is("from " + place, x.soonest(place, 0, 1), -1);
            }
            Due.is("there", x.soonest(3, 9, 1), 9);
        });
        Bound.of(22, "turns aside only at places: nobody is met on a path", () -> {
            HillClock x = Due.told("place a;place b;place d;path a b 9;" + walks("x", 0, 0, "a b a"));
            Due.is("x comes to b", x.soonest(1, 0, 1), 9);
            Due.is("x comes back", x.soonest(0, 1, 1), 18);
        });
    }

    private static void isLonely(HillClock x, int many, int from) {
        Due.is("how many", x.lonely(0), many);
        Due.is("from when", x.lonely(1), from);
    }

    private static void lonely() {
        Bound.of(23, "none: others", () -> {
            HillClock x = Due.told(TWO);
            for (int what : new int[] {-1, -2, 2, 3, MAX, MIN}) {
                Due.is("what " + what, x.lonely(what), -1);
            }
        });
        Bound.of(23, "none: no minute is lonely", () ->
            isLonely(Due.told(LAND + stays("x", 0, "a") + stays("y", 0, "a")), -1, -1));
        Bound.of(23, "one minute alone: the first", () ->
            isLonely(Due.told(LAND + stays("x", 0, "a") + stays("y", 1, "a")), 1, 0));
        Bound.of(23, "the whole day", () -> {
            isLonely(new HillClock(), 240, 0);
            isLonely(Due.told(LAND + stays("x", 0, "a")), 240, 0);
            isLonely(Due.told(LAND + stays("x", 0, "a") + stays("y", 0, "b")), 240, 0);
        });
        Bound.of(23, "the first such, of equal ones", () -> {
            isLonely(Due.told(LAND + stays("x", 0, "a") + walks("y", 105, 29, "a b")), 105, 0);
            isLonely(Due.told(LAND + stays("x", 0, "a") + walks("y", 106, 29, "a b")), 106, 0);
        });
        Bound.of(23, "the last one, up to minute 239", () ->
            isLonely(Due.told(LAND + stays("x", 0, "a") + walks("y", 104, 29, "a b")), 106, 134));
        Bound.of(23, "one between, one behind another", () ->
            isLonely(Due.told(LAND + stays("x", 0, "a") + walks("y", 0, 0, "a c b a")), 17, 1));
    }

    private static void lonelyByWhom() {
        Bound.of(23, "no two walkers are at one place: nowhere is none", () ->
            isLonely(Due.told(LAND + stays("x", 200, "a") + stays("y", 210, "a")), 210, 0));
        Bound.of(23, "no two walkers: the dead are none", () -> {
            HillClock x = Due.told(LAND + stays("x", 0, "a") + stays("y", 7, "a") + stays("z", 9, "a"));
            isLonely(x, 7, 0);
            x.dies(1);
            isLonely(x, 9, 0);
            x.dies(0);
            isLonely(x, 240, 0);
        });
        Bound.of(23, "no two walkers at any place: the last two at the last one", () ->
            isLonely(Due.told("place a;place b;place c;place d;place e;place f;" + stays("p", 0, "a") + stays("q", 0, "b")
                + stays("r", 0, "c") + stays("s", 0, "e") + stays("t", 9, "f") + stays("u", 8, "f")), 9, 0));
        Bound.of(23, "who goes is still there in that minute", () ->
            isLonely(Due.told(LAND + walks("x", 0, 9, "a b") + walks("y", 0, 9, "a c")), 230, 10));
    }

    private static void told() {
        Bound.of(24, "0 to 239, or none: true", () -> {
            HillClock x = Due.told(TWO);
            Due.is("0", x.tell(0, 0), true);
            Due.is("239", x.tell(1, 239), true);
            Due.is("none", x.tell(2, -1), true);
            Due.is("told", x.count(11), 3);
        });
        Bound.of(24, "false: others; nothing is told then", () -> {
            HillClock x = Due.told(TWO);
            for (int none : new int[] {-2, 240, MAX, MIN}) {
                Due.is("minute " + none, x.tell(0, none), false);
            }
            for (int none : new int[] {-1, 3, 6, MAX, MIN}) {
                Due.is("hour " + none, x.tell(none, 0), false);
            }
            Due.is("told", x.count(11), 0);
            Due.is("sets", x.sets(1, 0), 4);
        });
        Bound.of(24, "false: the elder stays told", () -> {
            HillClock x = Due.told(TWO);
            x.tell(0, 16);
            x.tell(0, 240);
            Due.is("sets", x.sets(1, 0), 2);
        });
        Bound.of(24, "a later one stands in place of the elder", () -> {
            HillClock x = Due.told(TWO);
            x.tell(0, 99);
            Due.is("sets", x.sets(1, 0), 0);
            Due.is("told again", x.tell(0, 16), true);
            Due.is("told", x.count(11), 1);
            Due.is("sets", x.sets(1, 0), 2);
            x.tell(0, -1);
            Due.is("told", x.count(11), 1);
            Due.is("sets", x.sets(1, 0), 0);
        });
        Bound.of(24, "what is told stays when a day passes and when something is undone", () -> {
            HillClock x = Due.told(TWO);
            x.tell(0, 16);
            x.day();
            Due.is("told", x.count(11), 1);
            x.undo();
            Due.is("told", x.count(11), 1);
            Due.is("sets", x.sets(1, 0), 2);
        });
    }

    private static void areSets(HillClock x, int minutes, int many, int all, int some, int least) {
        Due.is("how many", x.sets(minutes, 0), many);
        Due.is("in all", x.sets(minutes, 1), all);
        Due.is("in some", x.sets(minutes, 2), some);
        Due.is("the least of the smallest", x.sets(minutes, 3), least);
    }

    private static void sets() {
        Bound.of(25, "by 1 to 60 minutes; none: others", () -> {
            HillClock x = Due.told(TWO);
            x.tell(0, 16);
            areSets(x, 1, 2, 1, 3, 1);
            x.tell(0, 75);
            areSets(x, 60, 2, 1, 3, 1);
            for (int none : new int[] {-1, 0, 61, MAX, MIN}) {
                areSets(x, none, -1, -1, -1, -1);
            }
        });
        Bound.of(25, "none: another what", () -> {
            HillClock x = Due.told(TWO);
            for (int what : new int[] {-1, 4, 5, MAX, MIN}) {
                Due.is("what " + what, x.sets(1, what), -1);
            }
        });
        Bound.of(25, "no set: none, but how many is 0", () -> {
            HillClock x = Due.told(TWO);
            x.tell(0, 17);
            areSets(x, 1, 0, -1, -1, -1);
        });
        Bound.of(25, "nothing told: every set, of two, of six, of nobody", () -> {
            areSets(Due.told(TWO), 1, 4, 0, 3, 0);
            StringBuilder six = new StringBuilder(LAND);
            for (char name = 'p'; name <= 'u'; name++) {
                six.append(stays("" + name, 0, "a"));
            }
            areSets(Due.told(six.toString()), 60, 64, 0, 63, 0);
            areSets(Due.told(LAND), 1, 1, 0, 0, 0);
        });
        Bound.of(25, "later than now: on top of who is late, beyond 60, too", () -> {
            HillClock x = Due.told(TWO);
            x.late(0, 60);
            x.tell(0, 135);
            areSets(x, 60, 2, 1, 3, 1);
            Due.is("late by as before", x.walker(0, 2), 60);
            Due.is("to be undone", x.count(12), 1);
        });
        Bound.of(25, "sets of walkers, of the dead, too", () -> {
            HillClock x = Due.told(TWO);
            x.dies(1);
            x.tell(0, 15);
            areSets(x, 1, 2, 0, 2, 0);
        });
    }

    private static void setsByTold() {
        Bound.of(25, "told none: an hour that is none", () -> {
            HillClock x = Due.told(TWO);
            x.tell(2, -1);
            areSets(x, 1, 4, 0, 3, 0);
            x.tell(1, -1);
            areSets(x, 1, 0, -1, -1, -1);
        });
        Bound.of(25, "told none: one that would be in minute 240", () -> {
            HillClock x = Due.told(LAND + walks("x", 200, 0, "a b") + "hour h by x at b is 0;");
            x.tell(0, -1);
            areSets(x, 34, 0, -1, -1, -1);
            areSets(x, 35, 1, 1, 1, 1);
            x.tell(0, 239);
            areSets(x, 34, 1, 1, 1, 1);
        });
        Bound.of(25, "told minute 0, told minute 239", () -> {
            HillClock x = Due.told(LAND + stays("x", 0, "a") + stays("y", 239, "a") + "hour h by x at a is 9;hour i by y at a is 9;");
            x.tell(0, 0);
            areSets(x, 1, 2, 0, 2, 0);
            x.tell(1, 239);
            areSets(x, 1, 1, 0, 0, 0);
        });
        Bound.of(25, "all six hours are told: each must be so", () -> {
            StringBuilder six = new StringBuilder(LAND);
            for (char name = 'p'; name <= 'u'; name++) {
                six.append(stays("" + name, 5, "a"));
                six.append("hour h").append(name).append(" by ").append(name).append(" at a is 0;");
            }
            HillClock x = Due.told(six.toString());
            for (int hour = 0; hour < 6; hour++) {
                x.tell(hour, hour % 2 == 0 ? 5 : 8);
            }
            areSets(x, 3, 1, 42, 42, 42);
            x.tell(5, 7);
            areSets(x, 3, 0, -1, -1, -1);
        });
    }

    private static void setsLeast() {
        String waits = "waits x at a for z 60;waits y at a for z 60;";
        Bound.of(25, "the least of the smallest: fewer walkers before a lesser number", () -> {
            HillClock x = Due.told(LAND + walks("x", 20, 0, "a b") + walks("y", 20, 0, "a b") + stays("z", 20, "a") + waits
                + "hour h by x at b is 0;hour i by y at b is 0;");
            x.tell(0, 35);
            x.tell(1, 35);
            areSets(x, 10, 5, 0, 7, 4);
        });
        Bound.of(25, "the least of the smallest: of equally many the lesser number", () -> {
            HillClock x = Due.told(LAND + walks("x", 20, 0, "a b") + walks("y", 20, 0, "a b") + stays("z", 20, "a") + waits
                + "hour h by x at b is 0;");
            x.tell(0, 35);
            areSets(x, 10, 6, 0, 7, 1);
        });
    }

    private static void isRest(int due, int one, int other, int gets, int what) {
        Due.is("rests " + one + " " + other + " " + gets + " " + what, Due.rests(new HillClock(), one, other, gets, what), due);
    }

    private static void rests() {
        Bound.of(26, "NoSuchElementException: others", () -> {
            for (int none : new int[] {-1, 10, MAX, MIN}) {
                isRest(THROWS, none, 0, 5, -1);
                isRest(THROWS, 0, none, 5, -1);
                isRest(THROWS, none, none, 5, 0);
            }
            for (int none : new int[] {-1, 21, MAX, MIN}) {
                isRest(THROWS, 0, 0, none, -1);
            }
            for (int none : new int[] {-2, -3, MIN}) {
                isRest(THROWS, 0, 0, 5, none);
            }
        });
        Bound.of(26, "0 to 9 minutes late, 0 to 20 got", () -> {
            isRest(100, 0, 0, 0, -1);
            isRest(100, 9, 9, 20, -1);
            isRest(10, 0, 9, 0, -1);
            isRest(10, 9, 0, 20, -1);
        });
        Bound.of(26, "NoSuchElementException: none such", () -> {
            isRest(99, 4, 4, 5, 99);
            isRest(THROWS, 4, 4, 5, 100);
            isRest(THROWS, 4, 4, 5, MAX);
            isRest(9, 0, 3, 2, 9);
            isRest(THROWS, 0, 3, 2, 10);
        });
        Bound.of(26, "the i-th, the least first", () -> {
            isRest(0, 4, 4, 5, 0);
            for (int i = 0; i < 100; i++) {
                isRest(i, 4, 4, 5, i);
            }
            isRest(30, 0, 3, 5, 0);
            isRest(99, 0, 3, 5, 69);
            isRest(3, 3, 0, 5, 0);
            isRest(13, 3, 0, 5, 7);
        });
        Bound.of(26, "hills are not wanted, and nothing is changed", () -> {
            HillClock x = Due.told(TWO);
            Due.is("rests", Due.rests(x, 0, 3, 5, -1), 70);
            Due.is("throws", Due.rests(x, 10, 3, 5, -1), THROWS);
            Due.is("to be undone", x.count(12), 0);
            Due.is("day", x.day(), 479);
        });
    }

    private static void restsByWait() {
        Bound.of(26, "the difference is no more than he waits: just as much", () -> {
            isRest(10, 0, 9, 10, -1);
            isRest(90, 0, 9, 10, 0);
            isRest(10, 9, 0, 10, -1);
            isRest(9, 9, 0, 10, 0);
            isRest(19, 9, 0, 10, 1);
        });
        Bound.of(26, "as much as he loses: all the same to wait or not", () -> {
            isRest(20, 0, 9, 9, -1);
            isRest(9, 0, 9, 9, 9);
            isRest(90, 0, 9, 9, 10);
            isRest(80, 0, 3, 3, -1);
        });
        Bound.of(26, "less than he loses: he does not wait", () -> {
            isRest(10, 0, 9, 8, -1);
            isRest(0, 0, 9, 8, 0);
            isRest(9, 0, 9, 8, 9);
            isRest(90, 9, 0, 8, 9);
        });
        Bound.of(26, "he waits till the other one comes, no longer: a longer wait is as good", () -> {
            isRest(90, 0, 1, 2, -1);
            isRest(10, 0, 1, 2, 0);
            isRest(99, 0, 1, 2, 89);
        });
        Bound.of(26, "who comes second does not lose: any wait of his is as good", () -> {
            isRest(90, 1, 0, 20, -1);
            isRest(1, 1, 0, 20, 0);
            isRest(99, 1, 0, 20, 89);
        });
    }

    private static void areYears(HillClock x, int seed, int days, int... due) {
        for (int what = 0; what < 3; what++) {
            Due.is("years by " + seed + " of " + days + ", what " + what, x.years(seed, days, what), due[what]);
        }
    }

    private static void years() {
        String met = LAND + walks("x", 0, 0, "a b") + "hour h by x at b is 0;";
        Bound.of(27, "none: others than seeds 0 to 9999, 1 to 20 days, what 0 to 2", () -> {
            HillClock x = Due.told(met);
            for (int none : new int[] {-1, 10000, MAX, MIN}) {
                areYears(x, none, 1, -1, -1, -1);
            }
            for (int none : new int[] {-1, 0, 21, MAX, MIN}) {
                areYears(x, 0, none, -1, -1, -1);
            }
            for (int none : new int[] {-1, 3, 4, MAX, MIN}) {
                Due.is("what " + none, x.years(0, 1, none), -1);
            }
        });
        Bound.of(27, "seeds 0 and 9999, 1 and 20 days", () -> {
            HillClock x = Due.told(met);
            areYears(x, 0, 1, 38, 0, 0);
            areYears(x, 0, 20, 170, 0, 0);
            areYears(x, 9999, 1, 5, 0, 0);
            areYears(x, 9999, 20, 156, 0, 0);
        });
        Bound.of(27, "hours that were none; their cost", () -> {
            HillClock x = Due.told(LAND + walks("x", 215, 0, "a b") + "hour h by x at b is 220;");
            areYears(x, 0, 1, 240, 1, 0);
            areYears(x, 0, 20, 277, 1, 0);
            areYears(x, 2, 20, 522, 2, 0);
            areYears(x, 1, 20, 23, 0, 0);
        });
        Bound.of(27, "meetings: each pair once a day", () -> {
            HillClock x = Due.told(LAND + walks("x", 0, 0, "b a b") + walks("y", 0, 0, "b a b") + stays("z", 40, "b"));
            areYears(x, 1, 6, 0, 0, 18);
            Due.is("without walkers", Due.told(LAND).years(0, 20, 2), 0);
        });
        Bound.of(27, "the same as done by hand", () -> {
            String six = TWO + stays("p", 20, "b") + walks("q", 3, 9, "c a b") + walks("r", 210, 0, "a b") + walks("s", 0, 5, "a b c a")
                + "hour k by r at b is 200;waits q at b for s 40;missed off+none*99-days*2;";
            for (int seed : new int[] {0, 9999, 1234}) {
                int[] due = YearsByHand.sums(Due.told(six), seed, 15);
                areYears(Due.told(six), seed, 15, due);
            }
        });
    }

    private static void yearsDraw() {
        String met = LAND + walks("x", 0, 0, "a b") + "hour h by x at b is 0;";
        Bound.of(27, "from now on: late and snow as they are on the first day alone", () -> {
            HillClock x = Due.told(met);
            x.late(0, 50);
            areYears(x, 1, 1, 55, 0, 0);
            areYears(x, 1, 20, 173, 0, 0);
            x.snow();
            areYears(x, 1, 1, 60, 0, 0);
            areYears(x, 1, 20, 178, 0, 0);
        });
        Bound.of(27, "late by a draw in place of what he was, by 0, too", () -> {
            HillClock x = Due.told(met);
            x.late(0, 50);
            areYears(x, 0, 1, 38, 0, 0);
            areYears(x, 8, 1, 19, 0, 0);
            areYears(x, 37, 1, 5, 0, 0);
        });
        Bound.of(27, "snow by a draw in snow is snow", () -> {
            HillClock x = Due.told(met);
            x.snow();
            areYears(x, 0, 1, 38, 0, 0);
        });
        Bound.of(27, "a draw for each walker, for the dead, too", () -> {
            HillClock x = Due.told(LAND + walks("y", 0, 0, "a b") + walks("x", 0, 0, "a b") + "hour h by x at b is 0;");
            HillClock byHand = Due.told(LAND + walks("y", 0, 0, "a b") + walks("x", 0, 0, "a b") + "hour h by x at b is 0;");
            x.dies(0);
            byHand.dies(0);
            areYears(x, 77, 20, YearsByHand.sums(byHand, 77, 20));
        });
        Bound.of(27, "from now on: the days that have passed count; all is as ahead then", () -> {
            HillClock x = Due.told(met + "missed days;");
            x.day();
            x.day();
            x.late(0, 9);
            x.snow();
            areYears(x, 5, 20, 230, 0, 0);
            Due.is("day", x.count(5), 2);
            Due.is("missed", x.count(6), 1);
            Due.is("snow", x.count(8), 1);
            Due.is("late by", x.walker(0, 2), 9);
            Due.is("to be undone", x.count(12), 4);
        });
    }

    private static void full() {
        Bound.of(17, "six walkers, six places: the last ones are seen", () -> {
            HillClock x = Due.told(Bound.FULL);
            Due.is("see", x.see(5, 5, true), true);
            areTimes(x, 1, 230, 230);
            Due.is("no seventh walker", x.see(6, 5, true), false);
            Due.is("no seventh place", x.see(5, 6, true), false);
        });
        Bound.of(19, "six walkers, six places: the last place", () -> Due.is("at f", Due.told(Bound.FULL).look(), 5));
        Bound.of(20, "six walkers, six hours: the last ones", () -> {
            HillClock x = Due.told(Bound.FULL);
            x.dies(5);
            areDeputies(x, 239, -1, -1, -1, -1, -1, 3);
            x.undo();
            x.dies(4);
            areDeputies(x, 3, -1, -1, -1, -1, 3, -1);
            x.dies(3);
            areDeputies(x, -2, -2, -2, -2, -2, -2, -2);
        });
        Bound.of(21, "six walkers, six places: the last ones", () -> {
            HillClock x = Due.told(Bound.FULL);
            Due.is("place", x.sure(4, 5, 0), 5);
            Due.is("minute", x.sure(5, 4, 1), 230);
            Due.is("none", x.sure(5, 0, 0), -1);
            Due.is("others", x.sure(5, 6, 0), -1);
        });
        Bound.of(22, "six walkers, six places: from the last one, to it", () -> {
            HillClock x = Due.told(Bound.FULL);
            Due.is("there", x.soonest(5, 0, 32), 230);
            Due.is("from e", x.soonest(4, 223, 32), 230);
            Due.is("from e, too late", x.soonest(4, 224, 32), 237);
            Due.is("in minute 239", x.soonest(4, 232, 8), 239);
            Due.is("in minute 240", x.soonest(4, 233, 8), -1);
            Due.is("not all", x.soonest(5, 0, 63), -1);
            Due.is("not all", x.soonest(0, 0, 63), -1);
            Due.is("others", x.soonest(6, 0, 0), -1);
        });
        Bound.of(23, "six walkers, six places: the last two at the last one", () -> isLonely(Due.told(Bound.FULL), 7, 0));
        Bound.of(24, "six hours: the last one", () -> {
            HillClock x = Due.told(Bound.FULL);
            Due.is("tell", x.tell(5, 237), true);
            Due.is("others", x.tell(6, 237), false);
            areSets(x, 1, 32, 0, 31, 0);
            x.tell(5, 239);
            areSets(x, 2, 32, 32, 63, 32);
        });
        Bound.of(27, "six walkers, six hours: the same as done by hand", () -> {
            int[] due = YearsByHand.sums(Due.told(Bound.FULL), 4321, 14);
            areYears(Due.told(Bound.FULL), 4321, 14, due);
        });
    }
}
