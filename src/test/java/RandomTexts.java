import java.util.ArrayList;
import java.util.List;
import java.util.Random;

/** Texts of hills and days by chance: mostly right ones, and ones with small wrongs. */
final class RandomTexts {
    private static final String[] ODD = {"place", "path", "walker", "start", "pace", "halt", "round", "waits", "at", "for",
        "hour", "by", "is", "missed", "late", "dies", "deputy", "snow", "day", "plain", "slow", "idle", "brisk", "not",
        "and", "or", "off", "none", "days", "nobody", "pa", "pb", "wa", "wb", "ha", "hb", "0", "1", "7", "30", "31", "60",
        "61", "239", "240", "9999", "10000", "00001", "(", ")", "<", "=", "+", "-", "*", ";", ";", ".", "A", "#",
        "toolongword", "eightlet"};

    private final Random random;

    RandomTexts(Random random) {
        this.random = random;
    }

    private int below(int n) {
        return random.nextInt(n);
    }

    private String one(String[] of) {
        return of[below(of.length)];
    }

    static String place(int i) {
        return i == 5 ? "off" : "p" + (char) ('a' + i);
    }

    static String walker(int i) {
        return i == 5 ? "days" : "w" + (char) ('a' + i);
    }

    static String hour(int i) {
        return i == 5 ? "none" : "h" + (char) ('a' + i);
    }

    String hills() {
        StringBuilder text = new StringBuilder();
        int places = below(8) == 0 ? below(7) : 2 + below(5);
        int walkers = places < 2 ? 0 : below(8) == 0 ? below(7) : 2 + below(5);
        for (int i = 0; i < places; i++) {
            text.append("place ").append(place(i)).append(";");
        }
        int sparse = 1 + below(3);
        int longest = below(2) == 0 ? 30 : 8;
        for (int a = 0; a < places; a++) {
            for (int b = 0; b < a; b++) {
                if (below(3) >= sparse - 1) {
                    boolean turned = below(2) == 0;
                    text.append("path ").append(place(turned ? b : a)).append(" ").append(place(turned ? a : b));
                    text.append(" ").append(1 + below(longest)).append(";");
                }
            }
        }
        List<List<Integer>> rounds = new ArrayList<>();
        for (int i = 0; i < walkers; i++) {
            rounds.add(walkerLine(text, i, places));
        }
        waits(text, walkers, places);
        hours(text, walkers, rounds);
        if (below(4) > 0) {
            text.append("missed ").append(law(0)).append(";");
        }
        return text.toString();
    }

    private List<Integer> walkerLine(StringBuilder text, int i, int places) {
        text.append("walker ").append(walker(i)).append(" ").append(one(new String[] {"plain", "slow", "idle", "brisk"}));
        text.append(" start ").append(below(4) == 0 ? below(240) : below(60));
        text.append(" pace ").append(below(3) == 0 ? 1 + below(5) : 1);
        text.append(" halt ").append(below(3) == 0 ? 0 : below(31)).append(" round");
        int stops = 2 + below(3);
        List<Integer> round = new ArrayList<>();
        for (int k = 0; k < stops; k++) {
            int place = below(places);
            if (k > 0 && place == round.get(k - 1)) {
                place = (place + 1) % places;
            }
            round.add(place);
            text.append(" ").append(place(place));
        }
        text.append(";");
        return round;
    }

    private void waits(StringBuilder text, int walkers, int places) {
        boolean[] used = new boolean[36];
        int waits = walkers < 2 ? 0 : below(7);
        for (int i = 0; i < waits; i++) {
            int w = below(walkers);
            int p = below(places);
            int other = (w + 1 + below(walkers - 1)) % walkers;
            if (!used[w * 6 + p]) {
                used[w * 6 + p] = true;
                text.append("waits ").append(walker(w)).append(" at ").append(place(p)).append(" for ");
                text.append(walker(other)).append(" ").append(1 + below(60)).append(";");
            }
        }
    }

    private void hours(StringBuilder text, int walkers, List<List<Integer>> rounds) {
        int hours = walkers == 0 ? 0 : below(7);
        for (int i = 0; i < hours; i++) {
            int w = below(walkers);
            List<Integer> round = rounds.get(w);
            text.append("hour ").append(hour(i)).append(" by ").append(walker(w)).append(" at ");
            text.append(place(round.get(below(round.size())))).append(" is ").append(below(240)).append(";");
        }
    }

    String law(int depth) {
        StringBuilder text = new StringBuilder();
        int tests = 1 + (below(3) == 0 ? below(3) : 0);
        for (int i = 0; i < tests; i++) {
            text.append(i == 0 ? "" : below(2) == 0 ? " and " : " or ").append(sum(depth));
            if (below(5) == 0) {
                text.append(below(2) == 0 ? "<" : "=").append(sum(depth));
            }
        }
        return text.toString();
    }

    private String sum(int depth) {
        StringBuilder text = new StringBuilder(part(depth));
        int more = below(3);
        for (int i = 0; i < more; i++) {
            text.append(one(new String[] {"+", "-", "*"})).append(part(depth));
        }
        return text.toString();
    }

    private String part(int depth) {
        int choice = below(depth > 5 ? 6 : 9);
        if (choice < 2) {
            return " " + (below(8) == 0 ? 9999 : below(20));
        }
        if (choice < 6) {
            return " " + one(new String[] {"off", "none", "days", "off"});
        }
        return choice < 8 ? "(" + law(depth + 1) + ")" : " not " + part(depth + 1);
    }

    String days(int walkers, int hours) {
        StringBuilder text = new StringBuilder();
        int lines = below(6) == 0 ? 25 + below(8) : below(16);
        for (int i = 0; i < lines; i++) {
            int choice = below(8);
            if (choice < 2 && walkers > 0) {
                text.append("late ").append(walker(below(walkers))).append(" ").append(below(61));
            } else if (choice == 2 && walkers > 0) {
                text.append("dies ").append(walker(below(walkers)));
            } else if (choice == 3 && hours > 0) {
                text.append("deputy ").append(hour(below(hours))).append(" ").append(walker(below(walkers)));
            } else {
                text.append(choice == 4 ? "snow" : "day");
            }
            text.append(";");
        }
        return text.toString();
    }

    /** A text with a small wrong, or with none after all. */
    String spoilt(String text) {
        StringBuilder spoilt = new StringBuilder(text);
        int at = below(text.length() + 1);
        switch (below(10)) {
            case 0:
                spoilt.setLength(at);
                break;
            case 3:
            case 4:
                swapNumber(spoilt, at);
                break;
            case 5:
            case 6:
                addLine(spoilt, at);
                break;
            case 1:
                spoilt.insert(at, (char) (below(5) == 0 ? 10 : 32 + below(95)));
                break;
            case 2:
                if (at < text.length()) {
                    spoilt.deleteCharAt(at);
                }
                break;
            default:
                swapToken(spoilt, at);
                break;
        }
        return spoilt.toString();
    }

    /** Puts another number in the place of the next one. */
    private void swapNumber(StringBuilder text, int at) {
        int from = at;
        while (from < text.length() && !Character.isDigit(text.charAt(from))) {
            from++;
        }
        int to = from;
        while (to < text.length() && Character.isDigit(text.charAt(to))) {
            to++;
        }
        text.replace(from, to, one(new String[] {"0", "1", "5", "6", "30", "31", "60", "61", "239", "240", "9999", "12345"}));
    }

    /** Puts one line more behind some line. */
    private void addLine(StringBuilder text, int at) {
        int end = text.indexOf(";", at) + 1;
        int word = below(3);
        text.insert(end, one(new String[] {"place new;", "place pa;", "path pa pb 5;", "path pb pa 5;", "path pc pc 5;",
            "walker new idle start 0 pace 1 halt 0 round pa pb pa pb;", "walker x slow start 0 pace 1 halt 0 round pa pb pa pb pa;",
            "walker wa slow start 0 pace 1 halt 0 round pa;", "waits wa at pa for wb 9;", "waits wb at pa for wb 9;",
            "hour new by wa at pa is 9;", "hour ha by wa at pa is 9;", "missed 1;", "missed ((((not 1))));",
            "missed not not not not (2);", "late wa 7;", "dies new;", "deputy ha wa;", "snow;", "day;"}));
        if (word == 0) {
            text.insert(end, "place newer;");
        }
    }

    /** Puts another token in the place of one, before one, or takes one away. */
    private void swapToken(StringBuilder text, int at) {
        int from = at;
        while (from > 0 && Character.isLetterOrDigit(text.charAt(from - 1))) {
            from--;
        }
        int to = at;
        while (to < text.length() && Character.isLetterOrDigit(text.charAt(to))) {
            to++;
        }
        String other = below(4) == 0 ? "" : one(ODD);
        text.replace(from, below(3) == 0 ? from : to, " " + other + " ");
    }
}
