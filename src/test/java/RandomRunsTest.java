import java.util.NoSuchElementException;
import java.util.Random;

/** Runs of calls by chance, each answered by the class and by the model. */
public final class RandomRunsTest {
    private static final int RUNS = 400;
    private static final int CALLS = 512;

    private final Random random;
    private final RandomTexts texts;
    private final HillClock clock = new HillClock();
    private final Model model = new Model();
    private final int run;
    private int calls;

    private RandomRunsTest(int run) {
        this.run = run;
        random = new Random(run);
        texts = new RandomTexts(random);
    }

    public static void main(String[] args) {
        int runs = args.length > 0 ? Integer.parseInt(args[0]) : RUNS;
        for (int run = 0; run < runs && Due.allRight(); run++) {
            new RandomRunsTest(run).go();
        }
        Due.end();
    }

    private void is(String call, long got, long want) {
        calls++;
        Due.is("run " + run + ", call " + calls + ": " + call, got, want);
    }

    private void is(String call, boolean got, boolean want) {
        is(call, got ? 1 : 0, want ? 1 : 0);
    }

    private int below(int n) {
        return random.nextInt(n);
    }

    /** An index below n mostly, sometimes one beside it. */
    private int near(int n) {
        int odd = below(20);
        if (odd == 0) {
            return new int[] {-1, -2, n, n + 1, Integer.MAX_VALUE, Integer.MIN_VALUE}[below(6)];
        }
        return n == 0 ? 0 : below(n);
    }

    private void go() {
        if (below(5) > 0) {
            tellHills(texts.hills());
        }
        while (calls < CALLS - 50) {
            int choice = below(100);
            if (choice == 0) {
                tellHills(below(2) == 0 ? texts.hills() : texts.spoilt(texts.hills()));
            } else if (choice < 3) {
                tellDays();
            } else if (choice < 30) {
                change();
            } else if (choice < 60) {
                ask();
            } else {
                search();
            }
        }
    }

    private void feed(String text) {
        for (int i = 0; i < text.length() && calls < CALLS - 60; i += 24) {
            long a = Due.pack(text, i);
            long b = Due.pack(text, i + 8);
            long c = Due.pack(text, i + 16);
            is("feed " + text, clock.feed(a, b, c), model.feed(a, b, c));
        }
    }

    private void tellHills(String text) {
        feed(text);
        is("hills " + text, clock.hills(), model.hills());
    }

    private void tellDays() {
        String text = texts.days(model.count(1), model.count(2));
        text = below(3) == 0 ? texts.spoilt(text) : text;
        feed(text);
        is("days " + text, clock.days(), model.days());
    }

    private void change() {
        int w = near(model.count(1));
        int h = near(model.count(2));
        int p = near(model.count(0));
        switch (below(10)) {
            case 0:
            case 1: {
                int minutes = near(61);
                is("late " + w + " " + minutes, clock.late(w, minutes), model.late(w, minutes));
                break;
            }
            case 2:
                if (below(3) == 0) {
                    is("dies " + w, clock.dies(w), model.dies(w));
                }
                break;
            case 3:
                is("deputy " + h + " " + w, clock.deputy(h, w), model.deputy(h, w));
                break;
            case 4:
                is("snow", clock.snow(), model.snow());
                break;
            case 5:
                is("day", clock.day(), model.day());
                break;
            case 6:
                is("undo", clock.undo(), model.undo());
                break;
            case 7: {
                boolean so = below(3) == 0;
                is("see " + w + " " + p + " " + so, clock.see(w, p, so), model.see(w, p, so));
                break;
            }
            case 8: {
                // told as it is or would be, so that some sets stay
                int minute = below(3) == 0 ? near(240) : clock.hour(h, 3);
                minute = minute >= 0 && minute < 200 && below(2) == 0 ? minute + 10 : minute;
                calls++;
                is("tell " + h + " " + minute, clock.tell(h, minute), model.tell(h, minute));
                break;
            }
            default: {
                int mark = near(4);
                boolean back = below(2) == 0;
                is("mark " + mark + " " + back, clock.mark(mark, back), model.mark(mark, back));
                break;
            }
        }
    }

    private void ask() {
        int w = near(model.count(1));
        int o = near(model.count(1));
        int p = near(model.count(0));
        int q = near(model.count(0));
        int h = near(model.count(2));
        switch (below(8)) {
            case 0:
                is("way " + p + " " + q, clock.way(p, q), model.way(p, q));
                break;
            case 1: {
                int what = near(7);
                is("walker " + w + " " + what, clock.walker(w, what), model.walker(w, what));
                break;
            }
            case 2:
            case 3: {
                int minute = near(240);
                is("where " + w + " " + minute, clock.where(w, minute), model.where(w, minute));
                break;
            }
            case 4: {
                int what = near(6);
                is("hour " + h + " " + what, clock.hour(h, what), model.hour(h, what));
                break;
            }
            case 5: {
                int what = near(2);
                is("meet " + w + " " + o + " " + what, clock.meet(w, o, what), model.meet(w, o, what));
                break;
            }
            case 6: {
                int what = near(3);
                is("judged " + what, clock.judged(what), model.judged(what));
                break;
            }
            default: {
                int what = near(14);
                is("count " + what, clock.count(what), model.count(what));
                break;
            }
        }
    }

    private void search() {
        int w = near(model.count(1));
        int o = near(model.count(1));
        int p = near(model.count(0));
        switch (below(9)) {
            case 0: {
                int what = near(3);
                is("times " + what, clock.times(what), model.times(what));
                break;
            }
            case 1:
                is("look", clock.look(), model.look());
                break;
            case 2: {
                int hour = below(2) == 0 ? -1 : near(model.count(2));
                is("deputies " + hour, clock.deputies(hour), model.deputies(hour));
                break;
            }
            case 3: {
                int what = near(2);
                is("sure " + w + " " + o + " " + what, clock.sure(w, o, what), model.sure(w, o, what));
                break;
            }
            case 4: {
                int minute = below(3) == 0 ? near(240) : below(30);
                int some = near(1 << model.count(1)) & (below(2) == 0 ? below(64) : -1);
                is("soonest " + p + " " + minute + " " + some, clock.soonest(p, minute, some),
                    model.soonest(p, minute, some));
                break;
            }
            case 5: {
                int what = near(2);
                is("lonely " + what, clock.lonely(what), model.lonely(what));
                break;
            }
            case 6: {
                int minutes = below(2) == 0 ? 10 : near(61);
                int what = near(4);
                is("sets " + minutes + " " + what, clock.sets(minutes, what), model.sets(minutes, what));
                break;
            }
            case 7:
                rests();
                break;
            default: {
                int seed = near(10000);
                int days = near(21);
                int what = near(3);
                is("years " + seed + " " + days + " " + what, clock.years(seed, days, what),
                    model.years(seed, days, what));
                break;
            }
        }
    }

    private void rests() {
        int one = near(10);
        int other = near(10);
        int gets = near(21);
        int what = below(101) - 1;
        int got = Due.rests(clock, one, other, gets, what);
        int want;
        try {
            want = model.rests(one, other, gets, what);
        } catch (NoSuchElementException e) {
            want = Due.THROWS;
        }
        is("rests " + one + " " + other + " " + gets + " " + what, got, want);
    }
}
