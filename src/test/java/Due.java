import java.util.NoSuchElementException;

/** Counts answers that are not as due, and feeds texts. */
final class Due {
    /** What stands for the answer of rests if it throws. */
    static final int THROWS = -99;

    private static int wrong = 0;
    private static int asked = 0;
    private static String within = "";

    private Due() {
    }

    /** What stands before all that is found wrong from now on. */
    static void within(String what) {
        within = what;
    }

    static void is(String what, long got, long want) {
        asked++;
        if (got != want) {
            wrong++;
            if (wrong <= 40) {
                System.out.println(within + what + " answered " + got + ", due is " + want);
            }
        }
    }

    static void is(String what, boolean got, boolean want) {
        is(what, got ? 1 : 0, want ? 1 : 0);
    }

    static boolean allRight() {
        return wrong == 0;
    }

    /** Ends a test: with exit code 1 if an answer was wrong. */
    static void end() {
        System.out.println(asked + " answers, " + wrong + " not as due");
        if (wrong != 0 || asked == 0) {
            System.exit(1);
        }
    }

    /** Eight signs of a text from a place on, as feed takes them; 0 bytes behind its end. */
    static long pack(String text, int from) {
        long packed = 0;
        for (int i = from; i < from + 8; i++) {
            packed = packed << 8 | (i < text.length() ? text.charAt(i) & 255 : 0);
        }
        return packed;
    }

    static void feed(HillClock clock, String text) {
        for (int i = 0; i < text.length(); i += 24) {
            clock.feed(pack(text, i), pack(text, i + 8), pack(text, i + 16));
        }
    }

    /** A new object with hills told, in which there must be no fault. */
    static HillClock told(String hills) {
        HillClock clock = new HillClock();
        is("hills " + hills, hills(clock, hills), 0);
        return clock;
    }

    static int hills(HillClock clock, String text) {
        feed(clock, text);
        return clock.hills();
    }

    static int days(HillClock clock, String text) {
        feed(clock, text);
        return clock.days();
    }

    static int rests(HillClock clock, int one, int other, int gets, int what) {
        try {
            return clock.rests(one, other, gets, what);
        } catch (NoSuchElementException e) {
            return THROWS;
        }
    }
}
