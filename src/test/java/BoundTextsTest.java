import java.util.ArrayList;
import java.util.Arrays;
import java.util.List;

/** Promises 1 to 4: each sentence that names a bound of the tape, of its tokens, of hills and of days has a test. */
public final class BoundTextsTest {
    private static final String ABC = "place a;place b;place c;path a b 5;";
    private static final String LAND = Bound.LAND;
    private static final String XY = "walker x plain start 0 pace 1 halt 0 round a b;"
        + "walker y slow start 9 pace 2 halt 3 round b c;";
    private static final String TOLD = ABC + XY + "hour h by x at b is 1;";
    private static final String MAN = "walker w plain start 0 pace 1 halt 0 round ";
    private static final String SIX_PLACES = "place a;place b;place c;place d;place e;place f;";

    private BoundTextsTest() {
    }

    public static void main(String[] args) {
        newObject();
        tape();
        tapeIsTaken();
        words();
        numbersAndSigns();
        names();
        places();
        paths();
        walkers();
        rounds();
        waits();
        hours();
        laws();
        lawsWithinFive();
        faults();
        leastFaults();
        hillsKeep();
        hillsReplace();
        hillsAgainAndAgain();
        days();
        dayFaults();
        daysKeepAndReplace();
        Bound.end(1, 2, 3, 4);
    }

    /** Hills told on a new object; the token behind the first bar is their fault. */
    private static void wrong(int kind, String marked) {
        int place = marked.indexOf('|');
        HillClock x = new HillClock();
        String text = marked.substring(0, place) + marked.substring(place + 1);
        Due.is("hills " + marked, Due.hills(x, text), kind + 16 * place);
    }

    private static void right(String text) {
        Due.told(text);
    }

    /** Days told of TOLD on a new object, likewise. */
    private static void wrongDays(int kind, String marked) {
        int place = marked.indexOf('|');
        HillClock x = Due.told(TOLD);
        String text = marked.substring(0, place) + marked.substring(place + 1);
        Due.is("days " + marked, Due.days(x, text), kind + 16 * place);
    }

    private static HillClock rightDays(String text) {
        HillClock x = Due.told(TOLD);
        Due.is("days " + text, Due.days(x, text), 0);
        return x;
    }

    private static void blanks(HillClock x, int many) {
        for (int i = 0; i < many; i++) {
            x.feed(' ', 0, 0);
        }
    }

    /** A tape with 984 blanks. */
    private static HillClock almostFull() {
        HillClock x = new HillClock();
        long eight = Due.pack("        ", 0);
        for (int i = 0; i < 41; i++) {
            x.feed(eight, eight, eight);
        }
        return x;
    }

    private static void newObject() {
        Bound.of(1, "nothing: nothing can be counted", () -> {
            HillClock x = new HillClock();
            for (int what = 0; what <= 13; what++) {
                Due.is("count " + what, x.count(what), 0);
            }
        });
        Bound.of(1, "nothing: no place, walker, hour can be asked for", () -> {
            HillClock x = new HillClock();
            Due.is("way", x.way(0, 0), -1);
            Due.is("walker", x.walker(0, 0), -1);
            Due.is("where", x.where(0, 0), -1);
            Due.is("hour", x.hour(0, 0), -2);
            Due.is("meet", x.meet(0, 1, 0), -2);
            Due.is("sure", x.sure(0, 1, 0), -1);
            Due.is("soonest", x.soonest(0, 0, 0), -1);
            Due.is("deputies", x.deputies(0), -2);
        });
        Bound.of(1, "nothing: no walker, hour, place that something could be done with", () -> {
            HillClock x = new HillClock();
            Due.is("late", x.late(0, 0), false);
            Due.is("dies", x.dies(0), false);
            Due.is("deputy", x.deputy(0, 0), false);
            Due.is("see", x.see(0, 0, false), false);
            Due.is("tell", x.tell(0, 0), false);
            Due.is("undo", x.undo(), false);
            Due.is("mark back", x.mark(0, true), false);
        });
        Bound.of(1, "nothing: what wants neither is answered", BoundTextsTest::newObjectAnswers);
        Bound.of(1, "an object is used for 512 calls: the last one is as good as the first", () -> {
            HillClock x = new HillClock();
            for (int i = 1; i < 512; i++) {
                Due.is("day", x.day(), 0);
            }
            Due.is("the 512th call", x.count(5), 511);
        });
    }

    private static void newObjectAnswers() {
        HillClock x = new HillClock();
        Due.is("empty hills", x.hills(), 0);
        Due.is("empty days", x.days(), 0);
        for (int what = 0; what < 3; what++) {
            Due.is("judged " + what, x.judged(what), what == 2 ? 0 : -1);
            Due.is("times " + what, x.times(what), new int[] {240, 0, 239}[what]);
            Due.is("years " + what, x.years(9999, 20, what), 0);
        }
        Due.is("look", x.look(), -1);
        Due.is("deputies", x.deputies(-1), 0);
        Due.is("lonely", x.lonely(0), 240);
        Due.is("lonely from", x.lonely(1), 0);
        for (int what = 0; what < 4; what++) {
            Due.is("sets " + what, x.sets(60, what), what == 0 ? 1 : 0);
        }
        Due.is("snow", x.snow(), true);
        Due.is("day", x.day(), 0);
        Due.is("undo day", x.undo(), true);
        Due.is("undo snow", x.undo(), true);
        Due.is("undo no more", x.undo(), false);
        Due.is("a mark", x.mark(0, false), true);
    }

    private static void tape() {
        Bound.of(2, "up to 24 signs come: none", () -> Due.is("feed", new HillClock().feed(0, 0, 0), 0));
        Bound.of(2, "up to 24 signs come: all", () -> {
            HillClock x = new HillClock();
            Due.is("feed", x.feed(Due.pack("abcdefgh", 0), Due.pack("ijklmnop", 0), Due.pack("qrstuvwx", 0)), 24);
            Due.is("behind them", x.feed('y', 'z', ' '), 27);
        });
        Bound.of(2, "the bytes of a, b, c, of each the highest first", () -> {
            HillClock x = new HillClock();
            x.feed(Due.pack("place ab", 0), Due.pack(";place b", 0), Due.pack("a;path b", 0));
            x.feed(Due.pack("a ab 7;p", 0), Due.pack("lace c;p", 0), Due.pack("ath c ac", 0));
            Due.is("ac is none", x.hills(), 2 + 16 * 46);
        });
        Bound.of(2, "others than 10 and 32 .. 126 are left out: each byte in each place", BoundTextsTest::eachByte);
        Bound.of(2, "what is left out leaves no gap", () -> {
            HillClock x = new HillClock();
            Due.is("feed", x.feed(0x706C61096365FF20L, 0x0061000B00003B7FL, 0x8000000000000000L), 8);
            Due.is("place a;", x.hills(), 0);
            Due.is("places", x.count(0), 1);
        });
        Bound.of(2, "the tape has at most 1,000 signs: the 1,000th comes", () -> {
            HillClock x = almostFull();
            blanks(x, 8);
            Due.is("feed", x.feed(Due.pack("place a;", 0), 0, 0), 1000);
            Due.is("hills", x.hills(), 0);
            Due.is("places", x.count(0), 1);
        });
        Bound.of(2, "what is beyond 1,000 is left out: the 1,001st", () -> {
            HillClock x = almostFull();
            blanks(x, 9);
            Due.is("feed", x.feed(Due.pack("place a;", 0), 0, 0), 1000);
            Due.is("hills end behind a", x.hills(), 1 + 16 * 1000);
        });
        Bound.of(2, "what is beyond 1,000 is left out: the first ones come", () -> {
            HillClock x = almostFull();
            Due.is("feed", x.feed(Due.pack("place a;", 0), Due.pack("place b;", 0), Due.pack("place a;", 0)), 1000);
            Due.is("hills", x.hills(), 0);
            Due.is("places", x.count(0), 2);
        });
        Bound.of(2, "a full tape takes nothing more", () -> {
            HillClock x = almostFull();
            blanks(x, 16);
            Due.is("full", x.count(13), 1000);
            Due.is("feed", x.feed(-1, Due.pack("place a;", 0), 'x'), 1000);
            Due.is("hills", x.hills(), 0);
            Due.is("places", x.count(0), 0);
        });
        Bound.of(2, "a full tape that ends within a word, a number, blanks, at a sign", () -> {
            for (String end : new String[] {"abcdefgh", "       7", "        ", "       ("}) {
                HillClock x = almostFull();
                x.feed(Due.pack("missed 1", 0), Due.pack(end, 0), 0);
                int place = end.startsWith(" ") && !end.isBlank() ? 999 : end.isBlank() ? 1000 : 992;
                Due.is("hills end with " + end, x.hills(), 1 + 16 * place);
            }
        });
        Bound.of(2, "what is left out does not count to the 1,000", () -> {
            HillClock x = almostFull();
            Due.is("feed", x.feed(0, -1, 0x7F7F7F7F7F7F7F7FL), 984);
            Due.is("feed", x.feed(Due.pack("        ", 0), Due.pack("place a;", 0), 0), 1000);
            Due.is("hills", x.hills(), 0);
        });
    }

    private static void eachByte() {
        for (int sign = 0; sign < 256; sign++) {
            HillClock x = new HillClock();
            int due = 0;
            for (int shift = 0; shift < 64; shift += 8) {
                long bytes = (long) sign << shift;
                for (int k = 0; k < 3; k++) {
                    due += sign == 10 || sign >= 32 && sign <= 126 ? 1 : 0;
                    Due.is("feed " + sign, x.feed(k == 0 ? bytes : 0, k == 1 ? bytes : 0, k == 2 ? bytes : 0), due);
                }
            }
        }
    }

    private static void tapeIsTaken() {
        Bound.of(3, "what reads the tape takes it: without a fault", () -> {
            HillClock x = Due.told("place a;");
            Due.is("empty", x.count(13), 0);
            Due.is("from the beginning again", x.feed('a', 0, 0), 1);
        });
        Bound.of(3, "what reads the tape takes it: with a fault, too", () -> {
            HillClock x = new HillClock();
            Due.is("hills", Due.hills(x, "place a;place a;place b;"), 3 + 16 * 14);
            Due.is("empty", x.count(13), 0);
            Due.is("nothing is left of it", x.hills(), 0);
        });
        Bound.of(3, "what reads the tape takes it: nothing of a longer text is left behind a shorter one", () -> {
            HillClock x = Due.told("missed 123;");
            Due.is("a number", Due.hills(x, "missed 1"), 1 + 16 * 8);
            Due.is("a longer text", Due.hills(x, "place abc;"), 0);
            Due.is("a word", Due.hills(x, "place a"), 1 + 16 * 7);
            Due.is("a longer text", Due.hills(x, "place abc;"), 0);
            Due.is("a sign", Due.hills(x, "place abc"), 1 + 16 * 9);
            Due.is("a longer text", Due.hills(x, "place a     ;"), 0);
            Due.is("blanks", Due.hills(x, "place a "), 1 + 16 * 8);
        });
        Bound.of(4, "what reads the tape takes it: without a fault", () -> {
            HillClock x = new HillClock();
            Due.is("days", Due.days(x, "day;snow;"), 0);
            Due.is("empty", x.count(13), 0);
            Due.is("nothing is left of it", x.days(), 0);
            Due.is("no lines", x.count(9), 0);
        });
        Bound.of(4, "what reads the tape takes it: with a fault, too", () -> {
            HillClock x = new HillClock();
            Due.is("days", Due.days(x, "day;nap;"), 1 + 16 * 4);
            Due.is("empty", x.count(13), 0);
            Due.is("nothing is left of it", x.days(), 0);
        });
    }

    private static void words() {
        Bound.of(3, "words: 8 letters at most", () -> {
            right("place abcdefgh;place zzzzzzzz;path abcdefgh zzzzzzzz 1;");
            right("place a;place z;path a z 1;");
        });
        Bound.of(3, "words: a longer one is none, at its first sign", () -> {
            wrong(1, "place |abcdefghi;");
            wrong(1, "|placeabcd e;");
            wrong(1, "place abcdefgh;path |abcdefghi");
            wrong(1, "missed |abcdefghijklmnopqrstuvwxyz;");
        });
        Bound.of(3, "words: each as long as can be", () -> {
            wrong(1, "|placea;");
            wrong(2, "place a;place b;path |ab 5;");
            wrong(1, "missed |notoff;");
        });
        Bound.of(3, "words: two that share their first letters are two", () -> {
            right("place a;place aa;place aaa;place abcdefg;place abcdefgh;path a aa 3;");
            wrong(2, "place aa;place aaa;path aa |a 3;");
        });
        Bound.of(3, "words: only letters a .. z", () -> {
            wrong(1, "place |A;");
            wrong(1, "place |Z;");
            wrong(1, "place a|B;");
            wrong(1, "place z|{;");
            wrong(1, "place |`;");
            wrong(1, "place |_;");
        });
    }

    private static void numbersAndSigns() {
        String ab = "place a;place b;path a b ";
        Bound.of(3, "numbers: 1 to 4 digits", () -> {
            right(ab + "7;");
            right(ab + "0007;");
            right("missed 9999;");
            right("missed 0000;");
        });
        Bound.of(3, "numbers: a longer one is none, at its first sign", () -> {
            wrong(1, ab + "|00007;");
            wrong(1, "missed |10000;");
            wrong(1, "missed |99999999999999999999999;");
        });
        Bound.of(3, "numbers: a letter may stand right behind", () -> {
            right("place a;place b;walker w plain start 0pace 1halt 30round a b;");
            right("missed 1and 2or 3;");
            wrong(1, "missed 1|x;");
        });
        Bound.of(3, "numbers: one right behind a word is another token", () -> {
            right("place a;place b;path a b7;");
            wrong(1, "place a|7;");
        });
        Bound.of(3, "blanks between where one likes: 10 and 32, some or none", () -> {
            right("\n\n  place\na\n;place \n b;path a\nb 7 ;  \n");
            right("missed(off)+1*(none-2)<3and not(4);");
        });
        Bound.of(3, "blanks: none within a token", () -> {
            wrong(1, "|pla ce a;");
            wrong(1, ab + "1 |0;");
        });
        Bound.of(3, "all else is none: every other sign", () -> {
            for (char sign = 33; sign < 127; sign++) {
                boolean begins = "()<=+-*;".indexOf(sign) >= 0 || Character.isDigit(sign) || Character.isLowerCase(sign);
                if (!begins) {
                    wrong(1, "place a;|" + sign);
                    wrong(1, "missed off|" + sign + "1;");
                }
            }
        });
        Bound.of(3, "a sign can't begin a line", () -> {
            for (char sign : "()<=+-*;".toCharArray()) {
                wrong(1, "|" + sign);
                wrong(1, "place a;|" + sign);
            }
        });
    }

    private static void names() {
        Bound.of(3, "a name is another word than those of the language", () -> {
            for (String word : ("place path walker start pace halt round waits at for hour by is missed late dies deputy"
                + " snow day plain slow idle brisk not and or").split(" ")) {
                wrong(1, "place |" + word + ";");
                wrong(1, ABC + "walker |" + word + " plain start 0 pace 1 halt 0 round a b;");
                wrong(1, ABC + XY + "hour |" + word + " by x at b is 1;");
            }
        });
        Bound.of(3, "a name may be a fact's word, or one that only the document uses", () -> {
            right("place off;place none;place days;place kind;place hills;place test;path off none 3;");
            right(ABC + "walker off plain start 0 pace 1 halt 0 round a b;hour none by off at b is 1;missed off+none;");
        });
        Bound.of(3, "no two names are alike, of whatever they are", () -> {
            wrong(3, TOLD + "place |a;");
            wrong(3, TOLD + "place |x;");
            wrong(3, TOLD + "place |h;");
            wrong(3, TOLD + "walker |a plain start 0 pace 1 halt 0 round a b;");
            wrong(3, TOLD + "walker |x plain start 0 pace 1 halt 0 round a b;");
            wrong(3, TOLD + "walker |h plain start 0 pace 1 halt 0 round a b;");
            wrong(3, TOLD + "hour |a by x at b is 1;");
            wrong(3, TOLD + "hour |x by x at b is 1;");
            wrong(3, TOLD + "hour |h by x at b is 1;");
        });
    }

    private static void places() {
        Bound.of(3, "hills: any number of lines, none at all", () -> {
            HillClock x = Due.told(TOLD);
            Due.is("nothing on the tape", x.hills(), 0);
            Due.is("places", x.count(0), 0);
            Due.is("blanks alone", Due.hills(x, " \n "), 0);
        });
        Bound.of(3, "hills: lines in whichever order, each name told before it is used", () -> {
            right("missed off;place b;place a;walker x plain start 0 pace 1 halt 0 round a b;hour h by x at a is 1;place c;"
                + "path a c 5;walker y plain start 0 pace 1 halt 0 round c b;waits x at c for y 1;path c b 1;place d;");
            wrong(2, "place a;place b;walker x plain start 0 pace 1 halt 0 round a |c;place c;");
            wrong(2, ABC + "hour h by |x at a is 1;" + XY);
            wrong(2, ABC + "walker x plain start 0 pace 1 halt 0 round a b;waits x at a for |y 1;");
        });
        Bound.of(3, "places: 6 at most", () -> Due.is("six", Due.told(SIX_PLACES).count(0), 6));
        Bound.of(3, "places: the word of a seventh is one too many", () -> {
            wrong(5, SIX_PLACES + "|place g;");
            wrong(5, SIX_PLACES + "|place");
            wrong(5, SIX_PLACES + "path a b 1;|place a;");
        });
        Bound.of(3, "places: numbered as told", () -> {
            HillClock x = Due.told("place c;place a;place b;path a b 7;path c b 3;");
            Due.is("a b", x.way(1, 2), 7);
            Due.is("c b", x.way(0, 2), 3);
        });
    }

    private static void paths() {
        String abc = "place a;place b;place c;";
        Bound.of(3, "path: 1 to 30 minutes", () -> {
            Due.is("one", Due.told(abc + "path a b 1;").way(0, 1), 1);
            Due.is("thirty", Due.told(abc + "path a b 30;").way(0, 1), 30);
            wrong(4, abc + "path a b |0;");
            wrong(4, abc + "path a b |31;");
            wrong(4, abc + "path a b |9999;");
        });
        Bound.of(3, "path: not the same", () -> {
            wrong(3, abc + "path a |a 1;");
            wrong(3, abc + "path a b 1;path b |b 1;");
        });
        Bound.of(3, "path: each pair once, in whichever order", () -> {
            wrong(3, abc + "path a b 1;path a |b 1;");
            wrong(3, abc + "path a b 1;path b |a 2;");
            right(abc + "path a b 1;path b c 1;path c a 1;");
        });
        Bound.of(3, "path: any number of them, all fifteen pairs", () -> {
            StringBuilder all = new StringBuilder(SIX_PLACES);
            for (char one = 'a'; one <= 'f'; one++) {
                for (char other = 'a'; other < one; other++) {
                    all.append("path ").append(one).append(' ').append(other).append(" 30;");
                }
            }
            Due.is("paths", Due.told(all.toString()).count(3), 15);
            wrong(3, all + "path f |a 30;");
        });
        Bound.of(3, "path: two places told", () -> {
            wrong(2, abc + "path |d a 1;");
            wrong(2, abc + "path a |d 1;");
            wrong(2, "path |a b 1;place a;place b;");
            wrong(2, ABC + XY + "path a |x 1;");
        });
    }

    private static void walkers() {
        String six = ABC;
        for (char name = 'p'; name <= 'u'; name++) {
            six += "walker " + name + " idle start 0 pace 1 halt 0 round a b;";
        }
        String all = six;
        Bound.of(3, "walkers: 6 at most", () -> Due.is("six", Due.told(all).count(1), 6));
        Bound.of(3, "walkers: numbered as told", () -> {
            HillClock x = Due.told(ABC + "walker z slow start 7 pace 1 halt 0 round a b;" + XY);
            Due.is("the first", x.walker(0, 0), 1);
            Due.is("his start", x.where(0, 7), 0);
            Due.is("the last", x.where(2, 9), 1);
        });
        Bound.of(3, "walkers: the word of a seventh is one too many", () -> {
            wrong(5, all + "|walker v plain start 0 pace 1 halt 0 round a b;");
            wrong(5, all + "|walker");
        });
        Bound.of(3, "walkers: plain, slow, idle or brisk", () -> {
            for (String kind : new String[] {"plain", "slow", "idle", "brisk"}) {
                right(ABC + "walker w " + kind + " start 0 pace 1 halt 0 round a b;");
            }
            wrong(1, ABC + "walker w |quick start 0 pace 1 halt 0 round a b;");
            wrong(1, ABC + "walker w |start 0 pace 1 halt 0 round a b;");
            wrong(1, ABC + "walker w plain |slow start 0 pace 1 halt 0 round a b;");
        });
        Bound.of(3, "walkers: start a minute 0 to 239", () -> {
            Due.is("0", Due.told(ABC + MAN + "a b;").where(0, 0), 0);
            Due.is("239", Due.told(ABC + "walker w plain start 239 pace 1 halt 0 round a b;").where(0, 239), 0);
            wrong(4, ABC + "walker w plain start |240 pace 1 halt 0 round a b;");
        });
        Bound.of(3, "walkers: pace 1 to 5", () -> {
            right(ABC + "walker w plain start 0 pace 1 halt 0 round a b;");
            right(ABC + "walker w plain start 0 pace 5 halt 0 round a b;");
            wrong(4, ABC + "walker w plain start 0 pace |0 halt 0 round a b;");
            wrong(4, ABC + "walker w plain start 0 pace |6 halt 0 round a b;");
        });
        Bound.of(3, "walkers: halt 0 to 30 minutes", () -> {
            right(ABC + "walker w plain start 0 pace 1 halt 0 round a b;");
            right(ABC + "walker w plain start 0 pace 1 halt 30 round a b;");
            wrong(4, ABC + "walker w plain start 0 pace 1 halt |31 round a b;");
        });
    }

    private static void rounds() {
        Bound.of(3, "round: 2 to 4 places, no fewer", () -> {
            wrong(1, ABC + MAN + "|;");
            wrong(1, ABC + MAN + "a|;");
            right(ABC + MAN + "a b;");
        });
        Bound.of(3, "round: 2 to 4 places, a fifth is one too many", () -> {
            Due.is("the fourth", Due.told(ABC + MAN + "a b a c;").walker(0, 6), 2);
            wrong(5, ABC + MAN + "a b a b |c;");
            wrong(5, ABC + MAN + "a b a b |a b a b;");
        });
        Bound.of(3, "round: none right behind itself", () -> {
            wrong(3, ABC + MAN + "a |a;");
            wrong(3, ABC + MAN + "a b |b;");
            wrong(3, ABC + MAN + "a b c |c;");
            right(ABC + MAN + "a b a b;");
        });
        Bound.of(3, "round: places told", () -> {
            wrong(2, ABC + MAN + "|d a;");
            wrong(2, ABC + MAN + "a |d;");
            wrong(2, ABC + MAN + "a b c |d;");
            wrong(2, ABC + MAN + "a |w;");
        });
        Bound.of(3, "round: what is not wanted stands behind no place of it", () -> {
            wrong(1, ABC + MAN + "a b |1;");
            wrong(1, ABC + MAN + "a b a b |1;");
            wrong(1, ABC + MAN + "a b|");
        });
    }

    private static void waits() {
        String told = ABC + XY + "walker z plain start 0 pace 1 halt 0 round a b;";
        String six = told + "waits x at a for y 1;waits x at b for y 1;waits x at c for y 1;"
            + "waits y at a for x 1;waits y at b for x 1;waits y at c for x 1;";
        Bound.of(3, "waits: 6 lines at most", () -> Due.is("six", Due.told(six).count(4), 6));
        Bound.of(3, "waits: the word of a seventh is one too many", () -> {
            wrong(5, six + "|waits z at a for x 1;");
            wrong(5, six + "|waits");
        });
        Bound.of(3, "waits: each such two once", () -> {
            wrong(3, told + "waits x at c for y 1;waits x at |c for y 1;");
            wrong(3, told + "waits x at c for y 1;waits x at |c for z 2;");
            right(told + "waits x at c for y 1;waits x at b for y 1;waits y at c for x 1;waits z at c for x 1;");
        });
        Bound.of(3, "waits: for another walker", () -> {
            wrong(3, told + "waits x at a for |x 1;");
            wrong(3, told + "waits z at a for |z 1;");
        });
        Bound.of(3, "waits: 1 to 60 minutes", () -> {
            right(told + "waits x at a for y 1;");
            right(told + "waits x at a for y 60;");
            wrong(4, told + "waits x at a for y |0;");
            wrong(4, told + "waits x at a for y |61;");
        });
        Bound.of(3, "waits: at any place told, of his round or not", () -> {
            right(told + "waits x at c for y 1;");
            wrong(2, told + "waits x at |d for y 1;");
            wrong(2, told + "waits x at |y for y 1;");
        });
        Bound.of(3, "waits: a walker told, for a walker told", () -> {
            wrong(2, told + "waits |v at a for y 1;");
            wrong(2, told + "waits |a at a for y 1;");
            wrong(2, told + "waits x at a for |v 1;");
            wrong(2, told + "waits x at a for |a 1;");
        });
    }

    private static void hours() {
        String told = ABC + XY;
        String six = told;
        for (char name = 'p'; name <= 'u'; name++) {
            six += "hour " + name + " by x at b is 1;";
        }
        String all = six;
        Bound.of(3, "hours: 6 at most", () -> Due.is("six", Due.told(all).count(2), 6));
        Bound.of(3, "hours: the word of a seventh is one too many", () -> {
            wrong(5, all + "|hour w by x at b is 1;");
            wrong(5, all + "|hour");
        });
        Bound.of(3, "hours: a minute 0 to 239", () -> {
            Due.is("0", Due.told(told + "hour h by x at b is 0;").hour(0, 2), 0);
            Due.is("239", Due.told(told + "hour h by x at b is 239;").hour(0, 2), 239);
            wrong(4, told + "hour h by x at b is |240;");
        });
        Bound.of(3, "hours: a place of his round", () -> {
            right(told + "hour h by x at a is 1;hour i by y at c is 1;");
            wrong(4, told + "hour h by x at |c is 1;");
            wrong(4, told + "hour h by y at |a is 1;");
            wrong(2, told + "hour h by x at |d is 1;");
            wrong(2, told + "hour h by x at |x is 1;");
        });
        Bound.of(3, "hours: by a walker told", () -> {
            wrong(2, told + "hour h by |z at b is 1;");
            wrong(2, told + "hour h by |b at b is 1;");
            wrong(2, told + "hour h by |h at b is 1;");
        });
        Bound.of(3, "hours: numbered as told", () -> {
            HillClock x = Due.told(told + "hour j by y at c is 7;hour h by x at b is 9;");
            Due.is("the first", x.hour(0, 2), 7);
            Due.is("the second", x.hour(1, 2), 9);
        });
    }

    private static void laws() {
        Bound.of(3, "missed: once", () -> {
            right("missed 1;");
            wrong(3, "missed 1;|missed 1;");
            wrong(3, "missed 1;place a;|missed");
        });
        Bound.of(3, "missed: a test at least", () -> {
            wrong(1, "missed|;");
            wrong(1, "missed |and;");
            wrong(1, "missed (|);");
            wrong(1, "missed not|;");
            wrong(1, "missed 1 or|;");
            wrong(1, "missed 1<|;");
            wrong(1, "missed |+1;");
            wrong(1, "missed 1*|*1;");
            wrong(1, "missed |name;");
            wrong(1, "missed |late;");
        });
        Bound.of(3, "missed: a test has one < or = at most", () -> {
            wrong(1, "missed 1<2|<3;");
            wrong(1, "missed 1=2|=3;");
            wrong(1, "missed 1<2|=3;");
            wrong(1, "missed 1=2|<3;");
            right("missed (1<2)<3 and 1=(2=3);");
        });
        Bound.of(3, "missed: ( and ) one for one", () -> {
            wrong(1, "missed (1|;");
            wrong(1, "missed 1|);");
            wrong(1, "missed ((1)|;");
            right("missed ((1));");
        });
        Bound.of(3, "missed: as long as the tape", () -> {
            StringBuilder text = new StringBuilder("missed 1");
            for (int i = 0; i < 495; i++) {
                text.append("+1");
            }
            HillClock x = new HillClock();
            Due.is("999 signs", text.append(";").length(), 999);
            Due.is("hills", Due.hills(x, text.toString()), 0);
        });
    }

    private static void lawsWithinFive() {
        Bound.of(3, "no part lies within 5 of not and ( ): within 4 it may", () -> {
            right("missed ((((1))));");
            right("missed not not not not off;");
            right("missed (not (not none));");
            right("missed not (not (days));");
        });
        Bound.of(3, "no part lies within 5 of not and ( ): a number, a fact", () -> {
            wrong(5, "missed (((((|1)))));");
            wrong(5, "missed (((((|off)))));");
            wrong(5, "missed (((((|none)))));");
            wrong(5, "missed (((((|days)))));");
            wrong(5, "missed not not not not not |1;");
            wrong(5, "missed (not (not (|1)));");
        });
        Bound.of(3, "no part lies within 5 of not and ( ): not, (", () -> {
            wrong(5, "missed not not not not not |not 1;");
            wrong(5, "missed (((((|(1))))));");
            wrong(5, "missed (((((|not 1)))));");
            wrong(5, "missed not not not not not |(1);");
        });
        Bound.of(3, "no part lies within 5 of not and ( ): one behind others, too", () -> {
            wrong(5, "missed 1+((((1+2+(|3)))));");
            wrong(5, "missed ((((1 and 2<3*(|4)))));");
            wrong(5, "missed 1 or not not not not 1 or not not not not not |1;");
        });
        Bound.of(3, "no part lies within 5 of not and ( ): those beside it do not count", () -> {
            right("missed ((((1))))+((((2))));");
            right("missed not not not not 1+not not not not 2;");
            right("missed (((1)+(2))*((3)-(4)))and(((5)));");
            right("missed not not (1)or not not (2)and not not not 3;");
        });
        Bound.of(3, "no part lies within 5 of not and ( ): what can't stand there can't for all that", () -> {
            wrong(1, "missed (((((|;");
            wrong(1, "missed (((((|name;");
            wrong(1, "missed (((((|12345)))));");
            wrong(1, "missed not not not not not |and;");
            wrong(1, "missed (((((|");
        });
    }

    private static void faults() {
        Bound.of(3, "faults: the end is at the text's length", () -> {
            wrong(1, "place|");
            wrong(1, "place |");
            wrong(1, "place a|");
            wrong(1, "place a \n |");
            wrong(1, TOLD + "missed 1|");
            wrong(1, ABC + "path b c 5|");
        });
        Bound.of(3, "faults: of the first token that is wrong", () -> {
            wrong(3, "place a;place |a;path q r 99;");
            wrong(2, "place a;path |q a 99;place a;");
            wrong(4, ABC + "path b c |99;nonsense #");
            wrong(1, ABC + "path b c |;path a b 5;");
        });
        Bound.of(3, "faults: a number where a name should be, a name where a number should be", () -> {
            wrong(1, "place |1;");
            wrong(1, ABC + "path b c |c;");
            wrong(1, ABC + "walker w plain start |a pace 1 halt 0 round a b;");
            wrong(1, ABC + "walker w plain start 0 |1 halt 0 round a b;");
        });
        Bound.of(3, "faults: each word has its place in the line", () -> {
            wrong(1, ABC + "walker w plain |pace 1 start 0 halt 0 round a b;");
            wrong(1, ABC + "walker w plain start 0 |halt 1;");
            wrong(1, ABC + "walker w plain start 0 pace 1 |round a b;");
            wrong(1, ABC + "walker w plain start 0 pace 1 halt 0 |a b;");
            wrong(1, ABC + XY + "waits x |for y at a 1;");
            wrong(1, ABC + XY + "waits x at a |y 1;");
            wrong(1, ABC + XY + "hour h |at b;");
            wrong(1, ABC + XY + "hour h by x |is 1;");
            wrong(1, ABC + XY + "hour h by x at b |1;");
        });
        Bound.of(3, "faults: a line ends with ;", () -> {
            wrong(1, "place a |place b;");
            wrong(1, ABC + "path b c 1 |2;");
            wrong(1, "missed 1 |2;");
            wrong(1, ABC + XY + "waits x at a for y 1 |path a c 1;");
            wrong(1, ABC + XY + "hour h by x at b is 1|)");
        });
        Bound.of(3, "faults: what can't stand in the place of each token of each line", () -> {
            for (String line : new String[] {"place d ;", "path b c 5 ;", "walker w idle start 0 pace 1 halt 0 round a b ;",
                "waits x at c for y 5 ;", "hour i by x at b is 5 ;", "missed 1 ;"}) {
                for (String marked : eachTokenWrong(line)) {
                    wrong(1, TOLD + marked);
                }
            }
        });
        Bound.of(3, "faults: a name in the place of each word of each line", () -> {
            for (String marked : new String[] {"walker w |x start 0 pace 1 halt 0 round a b;",
                "walker w idle |a 0 pace 1 halt 0 round a b;", "walker w idle start 0 |a 1 halt 0 round a b;",
                "walker w idle start 0 pace 1 |a 0 round a b;", "walker w idle start 0 pace 1 halt 0 |a a b;",
                "waits x |y at a for y 5;", "waits x |b at a for y 5;", "waits x at a |y for y 5;", "hour i |x at b is 5;",
                "hour i by x |b is 5;", "hour i by x |a at b is 5;", "hour i by x at b |x 5;", "hour i by x at b |;place a;"}) {
                wrong(1, TOLD + marked);
            }
        });
        Bound.of(3, "faults: a line of days is none of hills", () -> {
            for (String word : new String[] {"late", "dies", "deputy", "snow", "day"}) {
                wrong(1, TOLD + "|" + word + ";");
            }
        });
    }

    /** A line again and again, each time with something else in the place of one token, or cut off there. */
    private static List<String> eachTokenWrong(String line) {
        List<String> wrong = new ArrayList<>();
        String[] tokens = line.split(" ");
        for (int k = 1; k < tokens.length; k++) {
            String before = String.join(" ", Arrays.asList(tokens).subList(0, k));
            String behind = String.join(" ", Arrays.asList(tokens).subList(k + 1, tokens.length));
            for (String other : new String[] {"place", "path", "walker", "waits", "hour", "missed", "day", "snow", "late", ")",
                "#", "abcdefghi", "12345"}) {
                wrong.add(before + " |" + other + " " + behind);
                wrong.add(before + " |" + other + " a;place a;");
            }
            wrong.add(before + "|");
            wrong.add(before + " |");
            if (k + 1 < tokens.length) {
                wrong.add(before + "|;place a;");
            }
        }
        return wrong;
    }

    private static void leastFaults() {
        Bound.of(3, "the least fault: a fifth place that is none of the text's words, or none told", () -> {
            wrong(1, ABC + MAN + "a b a b |at;");
            wrong(2, ABC + MAN + "a b a b |d;");
        });
        Bound.of(3, "the least fault: a fifth place right behind itself", () -> wrong(3, ABC + MAN + "a b a b |b;"));
        Bound.of(3, "the least fault: a place told nowhere is not of his round, either", () ->
            wrong(2, ABC + XY + "hour h by x at |q is 1;"));
        Bound.of(3, "the least fault: too long a number is none before it is too great a one", () ->
            wrong(1, ABC + "path b c |12345;"));
        Bound.of(3, "the least fault: a number too great where none can stand", () -> wrong(1, ABC + "path b |9999 c;"));
        Bound.of(3, "the least fault: the seventh of a word that ends the text", () -> wrong(5, SIX_PLACES + "|place"));
        Bound.of(4, "the least fault: the first word of a 31st line that begins none", () -> {
            wrongDays(1, days(30) + "|nap;");
            wrongDays(1, days(30) + "|place a;");
            wrongDays(1, days(30) + "|;");
        });
    }

    private static HillClock lived() {
        HillClock x = Due.told(TOLD + "hour i by y at b is 9;missed 7;");
        Due.is("days", Due.days(x, "late x 3;day;"), 0);
        x.late(0, 4);
        x.day();
        x.late(1, 5);
        x.snow();
        x.deputy(0, 1);
        x.dies(0);
        x.see(1, 1, true);
        x.see(0, 0, false);
        x.tell(1, -1);
        x.mark(3, false);
        return x;
    }

    private static void hillsKeep() {
        Bound.of(3, "a fault: all stays then", () -> {
            HillClock x = lived();
            Due.is("hills", Due.hills(x, "place q;path q q 1;missed 9;"), 3 + 16 * 15);
            Bound.areCounts(x, 3, 2, 2, 1, 0, 1, 14, 2, 1, 2, 2, 1, 6, 0);
            Due.is("way", x.way(0, 1), 5);
            Due.is("late by", x.walker(1, 2), 5);
            Due.is("by", x.hour(0, 0), 1);
            Due.is("told", x.hour(1, 2), 9);
            Due.is("cost", x.hour(0, 5), 7);
            Due.is("where", x.where(1, 14), 1);
            Due.is("judged", x.judged(2), 14);
            Due.is("times", x.times(1), 14);
            Due.is("sets", x.sets(1, 0), 0);
            Due.is("the mark", x.mark(3, true), true);
        });
        Bound.of(3, "a fault: what can be undone stays", () -> {
            HillClock x = lived();
            Due.is("hills", Due.hills(x, "nonsense"), 1);
            Due.is("undo", x.undo(), true);
            Due.is("alive again", x.count(7), 3);
        });
        Bound.of(3, "a fault in the last token: nothing of the lines before it is told", () -> {
            HillClock x = new HillClock();
            Due.is("hills", Due.hills(x, TOLD + "missed 1"), 1 + 16 * (TOLD.length() + 8));
            Bound.areCounts(x, 0, 0, 0, 0, 0);
        });
        Bound.of(3, "a fault on a new object: nothing stays", () -> {
            HillClock x = new HillClock();
            Due.is("hills", Due.hills(x, "place a;place a;"), 3 + 16 * 14);
            Due.is("way", x.way(0, 0), -1);
        });
    }

    private static HillClock again() {
        HillClock x = lived();
        Due.is("hills", Due.hills(x, TOLD + "hour i by y at b is 9;missed 7;"), 0);
        return x;
    }

    private static void hillsReplace() {
        Bound.of(3, "without a fault: day 0, no snow, nothing missed", () -> {
            HillClock x = again();
            Bound.areCounts(x, 3, 2, 2, 1, 0, 0, 0);
            Due.is("snow", x.count(8), 0);
        });
        Bound.of(3, "without a fault: nobody late, all alive", () -> {
            HillClock x = again();
            Due.is("alive", x.count(7), 3);
            Due.is("late", x.walker(1, 2), 0);
            Due.is("where", x.where(0, 0), 0);
        });
        Bound.of(3, "without a fault: hours by whom told", () -> Due.is("by", again().hour(0, 0), 0));
        Bound.of(3, "without a fault: no days", () -> {
            HillClock x = again();
            Due.is("lines", x.count(9), 0);
            Due.is("judged", x.judged(2), 0);
        });
        Bound.of(3, "without a fault: nothing told", () -> {
            HillClock x = again();
            Due.is("told", x.count(11), 0);
            Due.is("sets", x.sets(1, 0), 4);
        });
        Bound.of(3, "without a fault: nothing seen", () -> {
            HillClock x = again();
            Due.is("seen", x.count(10), 0);
            Due.is("times", x.times(0), 240);
        });
        Bound.of(3, "without a fault: nothing can be undone", () -> {
            HillClock x = again();
            Due.is("count", x.count(12), 0);
            Due.is("undo", x.undo(), false);
        });
        Bound.of(3, "without a fault: no mark is there", () -> {
            HillClock x = lived();
            for (int mark = 0; mark < 4; mark++) {
                x.mark(mark, false);
            }
            Due.is("hills", Due.hills(x, ABC), 0);
            for (int mark = 0; mark < 4; mark++) {
                Due.is("mark " + mark, x.mark(mark, true), false);
            }
        });
        Bound.of(3, "without a fault: nothing is left of the hills before", () -> {
            HillClock x = Due.told(TOLD + "waits x at b for y 9;missed 3;");
            Due.is("hills", Due.hills(x, "place b;place a;path b a 9;walker y plain start 4 pace 1 halt 0 round b a;"
                + "walker x plain start 0 pace 1 halt 0 round b a;hour i by x at a is 1;"), 0);
            Bound.areCounts(x, 2, 2, 1, 1, 0);
            Due.is("way", x.way(0, 1), 9);
            Due.is("no wait", x.where(1, 9), 1);
            Due.is("no law", x.hour(0, 5), 8);
            wrongAgain(x);
        });
    }

    private static void hillsAgainAndAgain() {
        String more = LAND + "walker x idle start 0 pace 2 halt 9 round a b c a;walker y slow start 4 pace 1 halt 1 round c b a;"
            + "waits x at a for y 40;waits x at b for y 40;hour h by x at c is 7;hour i by y at a is 9;missed 5;";
        String fewer = "place a;place b;place c;path a b 3;walker x plain start 1 pace 1 halt 0 round a b;hour h by x at b is 5;";
        Bound.of(3, "hills told again and again: nothing is left of all those before", () -> {
            HillClock x = new HillClock();
            for (int i = 0; i < 4; i++) {
                Due.is("more", Due.hills(x, more), 0);
                Bound.areCounts(x, 4, 2, 2, 3, 2);
                Due.is("cost", x.hour(0, 5), 5);
                areFewer(x, fewer);
            }
        });
        Bound.of(3, "hills told again and again: nothing is left of a text with a fault", () -> {
            HillClock x = new HillClock();
            for (int i = 0; i < 4; i++) {
                Due.is("a fault", Due.hills(x, more + "nonsense;"), 1 + 16 * more.length());
                areFewer(x, fewer);
            }
        });
        Bound.of(3, "hills told again and again: as often as there are calls", () -> {
            HillClock x = new HillClock();
            for (int i = 0; i < 480; i++) {
                Due.is("hills", x.hills(), 0);
            }
            areFewer(x, fewer);
        });
    }

    private static void areFewer(HillClock x, String fewer) {
        Due.is("fewer", Due.hills(x, fewer), 0);
        Bound.areCounts(x, 3, 1, 1, 1, 0, 0, 0, 1);
        Due.is("way", x.way(0, 1), 3);
        Due.is("no way", x.way(1, 2), -1);
        Due.is("beyond the round", x.walker(0, 5), -1);
        Due.is("he does not wait", x.hour(0, 3), 4);
        Due.is("no law", x.hour(0, 5), 1);
    }

    /** The names of hills before are no longer told. */
    private static void wrongAgain(HillClock x) {
        Due.is("no hour h", Due.days(x, "deputy h x;"), 2 + 16 * 7);
        Due.is("no place c", Due.hills(x, "place a;path a c 1;"), 2 + 16 * 15);
    }

    private static String days(int many) {
        StringBuilder text = new StringBuilder();
        for (int i = 0; i < many; i++) {
            text.append("day;");
        }
        return text.toString();
    }

    private static void days() {
        Bound.of(4, "days: any number of lines, none at all", () -> {
            HillClock x = rightDays("day;day;");
            Due.is("nothing on the tape", x.days(), 0);
            Due.is("no lines", x.count(9), 0);
            Due.is("blanks alone", Due.days(x, "\n "), 0);
        });
        Bound.of(4, "days: 30 lines at most", () -> {
            Due.is("thirty", rightDays(days(30)).count(9), 30);
            Due.is("of all sorts", rightDays("late x 1;dies x;deputy h y;snow;" + days(26)).count(9), 30);
        });
        Bound.of(4, "days: the first word of a 31st line is one too many", () -> {
            for (String word : new String[] {"late", "dies", "deputy", "snow", "day"}) {
                wrongDays(5, days(30) + "|" + word);
            }
            wrongDays(5, days(29) + "snow;|late x 99;");
        });
        Bound.of(4, "days: late by 0 to 60 minutes", () -> {
            rightDays("late x 0;");
            rightDays("late y 60;");
            wrongDays(4, "late x |61;");
            wrongDays(4, "late x |9999;");
            wrongDays(1, "late x |00000;");
        });
        Bound.of(4, "days: a walker, an hour told", () -> {
            wrongDays(2, "late |z 1;");
            wrongDays(2, "late |a 1;");
            wrongDays(2, "dies |h;");
            wrongDays(2, "deputy |x y;");
            wrongDays(2, "deputy |i y;");
            wrongDays(2, "deputy h |h;");
            wrongDays(2, "deputy h |b;");
        });
        Bound.of(4, "days: without hills nobody is told", () -> {
            HillClock x = new HillClock();
            Due.is("late", Due.days(x, "late x 1;"), 2 + 16 * 5);
            Due.is("dies", Due.days(x, "dies x;"), 2 + 16 * 5);
            Due.is("deputy", Due.days(x, "deputy h x;"), 2 + 16 * 7);
            Due.is("snow", Due.days(x, "snow;day;"), 0);
            Due.is("lines", x.count(9), 2);
        });
        Bound.of(4, "days: a deputy who can't is told for all that", () -> {
            HillClock x = rightDays("deputy h x;deputy h y;dies x;deputy h x;snow;snow;dies x;");
            Due.is("lines", x.count(9), 7);
        });
    }

    private static void dayFaults() {
        Bound.of(4, "faults: the end is at the text's length", () -> {
            wrongDays(1, "day|");
            wrongDays(1, "snow;day\n |");
            wrongDays(1, "late x|");
            wrongDays(1, "deputy h|");
        });
        Bound.of(4, "faults: what can't stand in the place of each token of each line", () -> {
            for (String line : new String[] {"late x 5 ;", "dies x ;", "deputy h y ;", "snow ;", "day ;"}) {
                for (String marked : eachTokenWrong(line)) {
                    wrongDays(1, "day;" + marked);
                }
            }
        });
        Bound.of(4, "faults: a line of hills is none of days", () -> {
            for (String word : new String[] {"place", "path", "walker", "waits", "hour", "missed"}) {
                wrongDays(1, "|" + word + " a;");
            }
        });
        Bound.of(4, "faults: what can't stand there", () -> {
            wrongDays(1, "|days;");
            wrongDays(1, "|1;");
            wrongDays(1, "|;");
            wrongDays(1, "late |5;");
            wrongDays(1, "late |at 5;");
            wrongDays(1, "late x |y;");
            wrongDays(1, "dies x |5;");
            wrongDays(1, "snow |1;");
            wrongDays(1, "day |day;");
            wrongDays(1, "|abcdefghi;");
        });
        Bound.of(4, "faults: of the first token that is wrong", () -> {
            wrongDays(2, "dies |z;late x 61;nap;");
            wrongDays(4, "late x |61;dies z;");
        });
    }

    private static void daysKeepAndReplace() {
        Bound.of(4, "a fault: the days stay", () -> {
            HillClock x = rightDays("late x 6;day;");
            Due.is("days", Due.days(x, "day;day;day;late x 61;"), 4 + 16 * 19);
            Due.is("lines", x.count(9), 2);
            Due.is("judged", x.judged(2), 10);
        });
        Bound.of(4, "days are the days, in place of those before", () -> {
            HillClock x = rightDays("late x 6;day;");
            Due.is("days", Due.days(x, "day;"), 0);
            Due.is("lines", x.count(9), 1);
            Due.is("judged", x.judged(2), 4);
        });
        Bound.of(4, "days are told, not done: all else stays", () -> {
            HillClock x = lived();
            Due.is("days", Due.days(x, "dies y;snow;day;day;late y 1;"), 0);
            Bound.areCounts(x, 3, 2, 2, 1, 0, 1, 14, 2, 1, 5, 2, 1, 6, 0);
            Due.is("late by", x.walker(1, 2), 5);
            Due.is("the mark", x.mark(3, true), true);
            Due.is("its days", x.count(9), 2);
        });
    }
}
