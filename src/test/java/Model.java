import java.util.ArrayDeque;
import java.util.ArrayList;
import java.util.Arrays;
import java.util.Deque;
import java.util.HashMap;
import java.util.HashSet;
import java.util.List;
import java.util.Map;
import java.util.NoSuchElementException;
import java.util.Set;
import java.util.TreeMap;

/**
 * The document told a second time, minute by minute and by trying everything out, with the whole Java library:
 * slow, and made in another way than the class, so that the two can be held against each other.
 */
final class Model {
    static final Set<String> RESERVED = new HashSet<>(Arrays.asList(("place path walker start pace halt round waits at"
        + " for hour by is missed late dies deputy snow day plain slow idle brisk not and or").split(" ")));
    static final List<String> KINDS = Arrays.asList("plain", "slow", "idle", "brisk");

    static final class Fault extends RuntimeException {
        private static final long serialVersionUID = 1;
        final int number;

        Fault(int kind, int place) {
            number = kind + 16 * place;
        }
    }

    static final class Token {
        final String text;
        final int place;
        final boolean good;

        Token(String text, int place, boolean good) {
            this.text = text;
            this.place = place;
            this.good = good;
        }

        boolean isWord() {
            return good && !text.isEmpty() && Character.isLetter(text.charAt(0));
        }

        boolean isNumber() {
            return good && !text.isEmpty() && Character.isDigit(text.charAt(0));
        }

        boolean isName() {
            return isWord() && !RESERVED.contains(text);
        }
    }

    interface Expr {
        int value(int off, int none, int days);
    }

    static final class Man {
        String name;
        int kind;
        int start;
        int pace;
        int halt;
        List<Integer> round = new ArrayList<>();
        Map<Integer, int[]> waits = new HashMap<>();
    }

    static final class Hour {
        String name;
        int by;
        int place;
        int minute;
    }

    static final class Told {
        List<String> places = new ArrayList<>();
        Map<List<Integer>, Integer> paths = new HashMap<>();
        List<Man> men = new ArrayList<>();
        List<Hour> hours = new ArrayList<>();
        int waits;
        Expr law = (off, none, days) -> off;

        int path(int a, int b) {
            return paths.getOrDefault(Arrays.asList(Math.min(a, b), Math.max(a, b)), -1);
        }

        private final int[][] ways = new int[6][6];
        private int waysOf = -1;

        int way(int from, int to) {
            if (waysOf != paths.size()) {
                waysOf = paths.size();
                for (int a = 0; a < places.size(); a++) {
                    for (int b = 0; b < places.size(); b++) {
                        ways[a][b] = findWay(a, b);
                    }
                }
            }
            return ways[from][to];
        }

        private int findWay(int from, int to) {
            int[] least = new int[places.size()];
            Arrays.fill(least, 1 << 20);
            least[from] = 0;
            for (int again = 0; again < places.size(); again++) {
                for (int a = 0; a < places.size(); a++) {
                    for (int b = 0; b < places.size(); b++) {
                        if (path(a, b) > 0) {
                            least[b] = Math.min(least[b], least[a] + path(a, b));
                        }
                    }
                }
            }
            return least[to] < 1 << 20 ? least[to] : -1;
        }

        int indexOfMan(String name) {
            for (int i = 0; i < men.size(); i++) {
                if (men.get(i).name.equals(name)) {
                    return i;
                }
            }
            return -1;
        }

        int indexOfHour(String name) {
            for (int i = 0; i < hours.size(); i++) {
                if (hours.get(i).name.equals(name)) {
                    return i;
                }
            }
            return -1;
        }

        boolean hasName(String name) {
            return places.contains(name) || indexOfMan(name) >= 0 || indexOfHour(name) >= 0;
        }
    }

    static final class Moment {
        int day;
        int[] late = new int[6];
        boolean[] dead = new boolean[6];
        int[] by = new int[6];
        boolean snow;
        int missed;

        Moment copy() {
            Moment m = new Moment();
            m.day = day;
            m.late = late.clone();
            m.dead = dead.clone();
            m.by = by.clone();
            m.snow = snow;
            m.missed = missed;
            return m;
        }
    }

    static final class Held {
        Moment moment;
        List<String[]> lines;
        List<int[]> seen;
        TreeMap<Integer, Integer> told;
    }

    final StringBuilder tape = new StringBuilder();
    Told hills = new Told();
    Moment now = new Moment();
    List<String[]> lines = new ArrayList<>();
    List<int[]> seen = new ArrayList<>();
    TreeMap<Integer, Integer> told = new TreeMap<>();
    final Deque<Moment> past = new ArrayDeque<>();
    final Held[] marks = new Held[4];

    private List<Token> tokens;
    private int next;

    int feed(long a, long b, long c) {
        for (long part : new long[] {a, b, c}) {
            for (int i = 7; i >= 0; i--) {
                int sign = (int) (part >> 8 * i) & 0xff;
                if ((sign == 10 || sign >= 32 && sign <= 126) && tape.length() < 1000) {
                    tape.append((char) sign);
                }
            }
        }
        return tape.length();
    }

    private void cutTokens() {
        String text = tape.toString();
        tape.setLength(0);
        tokens = new ArrayList<>();
        next = 0;
        int i = 0;
        while (i < text.length()) {
            char c = text.charAt(i);
            int end = i + 1;
            if (c == '\n' || c == ' ') {
                i++;
                continue;
            }
            boolean good = "()<=+-*;".indexOf(c) >= 0;
            if (c >= 'a' && c <= 'z') {
                while (end < text.length() && text.charAt(end) >= 'a' && text.charAt(end) <= 'z') {
                    end++;
                }
                good = end - i <= 8;
            } else if (c >= '0' && c <= '9') {
                while (end < text.length() && text.charAt(end) >= '0' && text.charAt(end) <= '9') {
                    end++;
                }
                good = end - i <= 4;
            }
            tokens.add(new Token(text.substring(i, end), i, good));
            i = end;
        }
        tokens.add(new Token("", text.length(), true));
    }

    private Token peek() {
        return tokens.get(next);
    }

    private Token take() {
        return tokens.get(next++);
    }

    private boolean at(String text) {
        return peek().good && peek().text.equals(text);
    }

    private void due(String text) {
        if (!at(text)) {
            throw new Fault(1, peek().place);
        }
        next++;
    }

    private Token name() {
        Token t = take();
        if (!t.isName()) {
            throw new Fault(1, t.place);
        }
        return t;
    }

    private Token newName(Told t) {
        Token n = name();
        if (t.hasName(n.text)) {
            throw new Fault(3, n.place);
        }
        return n;
    }

    private Token known(Told t, char kind) {
        Token n = name();
        boolean is = kind == 'p' ? t.places.contains(n.text)
            : kind == 'w' ? t.indexOfMan(n.text) >= 0 : t.indexOfHour(n.text) >= 0;
        if (!is) {
            throw new Fault(2, n.place);
        }
        return n;
    }

    private int number(int least, int most) {
        Token t = take();
        if (!t.isNumber()) {
            throw new Fault(1, t.place);
        }
        int n = Integer.parseInt(t.text);
        if (n < least || n > most) {
            throw new Fault(4, t.place);
        }
        return n;
    }

    private static void check(boolean good, int kind, Token t) {
        if (!good) {
            throw new Fault(kind, t.place);
        }
    }

    int hills() {
        cutTokens();
        try {
            Told t = readHills();
            hills = t;
            now = fresh();
            lines = new ArrayList<>();
            seen = new ArrayList<>();
            told = new TreeMap<>();
            past.clear();
            Arrays.fill(marks, null);
            return 0;
        } catch (Fault f) {
            return f.number;
        }
    }

    private Moment fresh() {
        Moment m = new Moment();
        for (int i = 0; i < hills.hours.size(); i++) {
            m.by[i] = hills.hours.get(i).by;
        }
        return m;
    }

    private Told readHills() {
        Told t = new Told();
        boolean law = false;
        while (next < tokens.size() - 1) {
            Token first = take();
            switch (first.isWord() ? first.text : "?") {
                case "place":
                    check(t.places.size() < 6, 5, first);
                    t.places.add(newName(t).text);
                    break;
                case "path": {
                    int a = t.places.indexOf(known(t, 'p').text);
                    Token second = known(t, 'p');
                    int b = t.places.indexOf(second.text);
                    check(a != b && t.path(a, b) < 0, 3, second);
                    t.paths.put(Arrays.asList(Math.min(a, b), Math.max(a, b)), number(1, 30));
                    break;
                }
                case "walker":
                    check(t.men.size() < 6, 5, first);
                    t.men.add(readMan(t));
                    break;
                case "waits":
                    check(t.waits < 6, 5, first);
                    readWaits(t);
                    break;
                case "hour":
                    check(t.hours.size() < 6, 5, first);
                    t.hours.add(readHour(t));
                    break;
                case "missed":
                    check(!law, 3, first);
                    law = true;
                    t.law = all(0);
                    break;
                default:
                    throw new Fault(1, first.place);
            }
            due(";");
        }
        return t;
    }

    private Man readMan(Told t) {
        Man m = new Man();
        m.name = newName(t).text;
        Token kind = take();
        m.kind = kind.isWord() ? KINDS.indexOf(kind.text) : -1;
        check(m.kind >= 0, 1, kind);
        due("start");
        m.start = number(0, 239);
        due("pace");
        m.pace = number(1, 5);
        due("halt");
        m.halt = number(0, 30);
        due("round");
        while (m.round.size() < 2 || !at(";")) {
            Token p = known(t, 'p');
            int place = t.places.indexOf(p.text);
            check(m.round.isEmpty() || m.round.get(m.round.size() - 1) != place, 3, p);
            check(m.round.size() < 4, 5, p);
            m.round.add(place);
        }
        return m;
    }

    private void readWaits(Told t) {
        int man = t.indexOfMan(known(t, 'w').text);
        due("at");
        Token p = known(t, 'p');
        int place = t.places.indexOf(p.text);
        check(!t.men.get(man).waits.containsKey(place), 3, p);
        due("for");
        Token o = known(t, 'w');
        int other = t.indexOfMan(o.text);
        check(other != man, 3, o);
        t.men.get(man).waits.put(place, new int[] {other, number(1, 60)});
        t.waits++;
    }

    private Hour readHour(Told t) {
        Hour h = new Hour();
        h.name = newName(t).text;
        due("by");
        h.by = t.indexOfMan(known(t, 'w').text);
        due("at");
        Token p = known(t, 'p');
        h.place = t.places.indexOf(p.text);
        check(t.men.get(h.by).round.contains(h.place), 4, p);
        due("is");
        h.minute = number(0, 239);
        return h;
    }

    private Expr all(int depth) {
        Expr left = test(depth);
        while (at("and") || at("or")) {
            boolean and = take().text.equals("and");
            Expr one = left;
            Expr two = test(depth);
            left = (off, none, days) -> {
                boolean a = one.value(off, none, days) != 0;
                boolean b = two.value(off, none, days) != 0;
                return (and ? a && b : a || b) ? 1 : 0;
            };
        }
        return left;
    }

    private Expr test(int depth) {
        Expr one = sum(depth);
        if (at("<")) {
            take();
            Expr two = sum(depth);
            return (off, none, days) -> one.value(off, none, days) < two.value(off, none, days) ? 1 : 0;
        }
        if (at("=")) {
            take();
            Expr two = sum(depth);
            return (off, none, days) -> one.value(off, none, days) == two.value(off, none, days) ? 1 : 0;
        }
        return one;
    }

    private Expr sum(int depth) {
        Expr left = product(depth);
        while (at("+") || at("-")) {
            int by = take().text.equals("+") ? 1 : -1;
            Expr one = left;
            Expr two = product(depth);
            left = (off, none, days) -> one.value(off, none, days) + by * two.value(off, none, days);
        }
        return left;
    }

    private Expr product(int depth) {
        Expr left = part(depth);
        while (at("*")) {
            take();
            Expr one = left;
            Expr two = part(depth);
            left = (off, none, days) -> one.value(off, none, days) * two.value(off, none, days);
        }
        return left;
    }

    private Expr part(int depth) {
        Token t = take();
        boolean fact = t.isWord() && Arrays.asList("off", "none", "days").contains(t.text);
        boolean can = t.isNumber() || fact || t.good && (t.text.equals("not") || t.text.equals("("));
        check(can, 1, t);
        check(depth < 5, 5, t);
        if (t.isNumber()) {
            int n = Integer.parseInt(t.text);
            return (off, none, days) -> n;
        }
        switch (t.text) {
            case "off":
                return (off, none, days) -> off;
            case "none":
                return (off, none, days) -> none;
            case "days":
                return (off, none, days) -> days;
            case "not": {
                Expr of = part(depth + 1);
                return (off, none, days) -> of.value(off, none, days) == 0 ? 1 : 0;
            }
            default: {
                Expr within = all(depth + 1);
                due(")");
                return within;
            }
        }
    }

    int days() {
        cutTokens();
        try {
            List<String[]> read = new ArrayList<>();
            while (next < tokens.size() - 1) {
                Token first = take();
                String word = first.isWord() ? first.text : "?";
                check(Arrays.asList("late", "dies", "deputy", "snow", "day").contains(word), 1, first);
                check(read.size() < 30, 5, first);
                String[] line = {word, "0", "0"};
                if (word.equals("late")) {
                    line[1] = "" + hills.indexOfMan(known(hills, 'w').text);
                    line[2] = "" + number(0, 60);
                } else if (word.equals("dies")) {
                    line[1] = "" + hills.indexOfMan(known(hills, 'w').text);
                } else if (word.equals("deputy")) {
                    line[1] = "" + hills.indexOfHour(known(hills, 'h').text);
                    line[2] = "" + hills.indexOfMan(known(hills, 'w').text);
                }
                due(";");
                read.add(line);
            }
            lines = read;
            return 0;
        } catch (Fault f) {
            return f.number;
        }
    }

    private boolean isPlace(int p) {
        return p >= 0 && p < hills.places.size();
    }

    private boolean isMan(int w) {
        return w >= 0 && w < hills.men.size();
    }

    private boolean isHour(int h) {
        return h >= 0 && h < hills.hours.size();
    }

    int way(int from, int to) {
        return isPlace(from) && isPlace(to) ? hills.way(from, to) : -1;
    }

    int walker(int w, int what) {
        if (!isMan(w) || what < 0) {
            return -1;
        }
        Man m = hills.men.get(w);
        if (what == 0) {
            return m.kind;
        }
        if (what == 1) {
            return now.dead[w] ? 0 : 1;
        }
        if (what == 2) {
            return now.late[w];
        }
        return what - 3 < m.round.size() ? m.round.get(what - 3) : -1;
    }

    /** Where everybody is, by walker and minute. */
    private int[][] walk(Moment m) {
        int n = hills.men.size();
        int[][] at = new int[n][240];
        int[] place = new int[n];
        int[] stop = new int[n];
        int[] comes = new int[n];
        int[] came = new int[n];
        boolean[] met = new boolean[n];
        Arrays.fill(place, -1);
        for (int w = 0; w < n; w++) {
            comes[w] = hills.men.get(w).start + m.late[w];
        }
        for (int minute = 0; minute < 240; minute++) {
            for (int w = 0; w < n; w++) {
                if (!m.dead[w] && comes[w] == minute) {
                    place[w] = hills.men.get(w).round.get(stop[w]);
                    came[w] = minute;
                    met[w] = false;
                }
            }
            for (int w = 0; w < n; w++) {
                at[w][minute] = place[w];
            }
            for (int w = 0; w < n; w++) {
                int[] wait = place[w] < 0 ? null : hills.men.get(w).waits.get(place[w]);
                if (wait != null && place[wait[0]] == place[w]) {
                    met[w] = true;
                }
            }
            boolean[] goes = new boolean[n];
            for (int w = 0; w < n; w++) {
                if (place[w] < 0) {
                    continue;
                }
                Man man = hills.men.get(w);
                int been = minute - came[w];
                int[] wait = man.waits.get(place[w]);
                boolean rested = been >= man.halt * (man.kind == 2 ? 2 : 1);
                boolean waited = wait == null || met[w] || been >= wait[1];
                goes[w] = rested && waited && stop[w] + 1 < man.round.size()
                    && hills.way(place[w], man.round.get(stop[w] + 1)) >= 0;
            }
            for (int w = 0; w < n; w++) {
                if (goes[w]) {
                    Man man = hills.men.get(w);
                    int minutes = hills.way(place[w], man.round.get(stop[w] + 1)) * (man.pace + (man.kind == 1 ? 1 : 0));
                    comes[w] = minute + (m.snow && man.kind != 3 ? 2 * minutes : minutes);
                    stop[w]++;
                    place[w] = -1;
                }
            }
        }
        return at;
    }

    int where(int w, int minute) {
        return isMan(w) && minute >= 0 && minute < 240 ? walk(now)[w][minute] : -1;
    }

    private int minuteBy(int[][] at, int h, int w) {
        for (int minute = 0; minute < 240; minute++) {
            if (at[w][minute] == hills.hours.get(h).place) {
                return minute;
            }
        }
        return -1;
    }

    private int offBy(int[][] at, int h, int w) {
        int minute = minuteBy(at, h, w);
        return minute < 0 ? 240 : Math.abs(minute - hills.hours.get(h).minute);
    }

    private int cost(int[][] at, Moment m, int h) {
        int none = minuteBy(at, h, m.by[h]) < 0 ? 1 : 0;
        int cost = hills.law.value(offBy(at, h, m.by[h]), none, m.day);
        return cost < 0 ? 0 : cost > 999 ? 999 : cost;
    }

    int hour(int h, int what) {
        if (!isHour(h) || what < 0 || what > 5) {
            return -2;
        }
        int[][] at = walk(now);
        return new int[] {now.by[h], hills.hours.get(h).place, hills.hours.get(h).minute,
            minuteBy(at, h, now.by[h]), offBy(at, h, now.by[h]), cost(at, now, h)}[what];
    }

    private static int firstMeet(int[][] at, int one, int other, int place) {
        for (int minute = 0; minute < 240; minute++) {
            int where = at[one][minute];
            if (where >= 0 && where == at[other][minute] && (place < 0 || place == where)) {
                return minute;
            }
        }
        return -1;
    }

    int meet(int one, int other, int what) {
        if (!isMan(one) || !isMan(other) || one == other || what < 0 || what > 1) {
            return -2;
        }
        int[][] at = walk(now);
        int minute = firstMeet(at, one, other, -1);
        return what == 0 || minute < 0 ? minute : at[one][minute];
    }

    private void keep() {
        past.addLast(now.copy());
        if (past.size() > 16) {
            past.removeFirst();
        }
    }

    boolean late(int w, int minutes) {
        if (!isMan(w) || minutes < 0 || minutes > 60) {
            return false;
        }
        keep();
        now.late[w] = minutes;
        return true;
    }

    boolean dies(int w) {
        if (!isMan(w) || now.dead[w]) {
            return false;
        }
        keep();
        now.dead[w] = true;
        return true;
    }

    private boolean canDepute(Moment m, int h, int w) {
        return !m.dead[w] && m.by[h] != w && hills.men.get(w).round.contains(hills.hours.get(h).place);
    }

    boolean deputy(int h, int w) {
        if (!isHour(h) || !isMan(w) || !canDepute(now, h, w)) {
            return false;
        }
        keep();
        now.by[h] = w;
        return true;
    }

    boolean snow() {
        if (now.snow) {
            return false;
        }
        keep();
        now.snow = true;
        return true;
    }

    private int pass(Moment m) {
        int[][] at = walk(m);
        int sum = 0;
        for (int h = 0; h < hills.hours.size(); h++) {
            sum += cost(at, m, h);
        }
        m.missed += sum;
        m.day++;
        m.late = new int[6];
        m.snow = false;
        return sum;
    }

    private int nones(Moment m) {
        int[][] at = walk(m);
        int many = 0;
        for (int h = 0; h < hills.hours.size(); h++) {
            many += minuteBy(at, h, m.by[h]) < 0 ? 1 : 0;
        }
        return many;
    }

    int day() {
        keep();
        return pass(now);
    }

    boolean undo() {
        if (past.isEmpty()) {
            return false;
        }
        now = past.removeLast();
        return true;
    }

    int judged(int what) {
        if (what < 0 || what > 2) {
            return -2;
        }
        Moment m = fresh();
        int[] answer = {-1, -1, 0};
        for (int i = 0; i < lines.size(); i++) {
            int a = Integer.parseInt(lines.get(i)[1]);
            int b = Integer.parseInt(lines.get(i)[2]);
            boolean can = true;
            switch (lines.get(i)[0]) {
                case "late":
                    m.late[a] = b;
                    break;
                case "dies":
                    can = !m.dead[a];
                    m.dead[a] = true;
                    break;
                case "deputy":
                    can = canDepute(m, a, b);
                    m.by[a] = can ? b : m.by[a];
                    break;
                case "snow":
                    can = !m.snow;
                    m.snow = true;
                    break;
                default:
                    if (answer[1] < 0 && nones(m) > 0) {
                        answer[1] = i;
                    }
                    pass(m);
                    break;
            }
            if (!can && answer[0] < 0) {
                answer[0] = i;
            }
        }
        answer[2] = m.missed;
        return answer[what];
    }

    boolean see(int w, int p, boolean is) {
        if (!isMan(w) || !isPlace(p) || seen.size() >= 8) {
            return false;
        }
        seen.add(new int[] {w, p, is ? 1 : 0});
        return true;
    }

    private List<Integer> allTimes(int[][] at) {
        List<Integer> times = new ArrayList<>();
        for (int minute = 0; minute < 240; minute++) {
            boolean good = true;
            for (int[] s : seen) {
                good &= (at[s[0]][minute] == s[1]) == (s[2] == 1);
            }
            if (good) {
                times.add(minute);
            }
        }
        return times;
    }

    int times(int what) {
        List<Integer> times = allTimes(walk(now));
        if (what == 0) {
            return times.size();
        }
        if (times.isEmpty() || what < 0 || what > 2) {
            return -1;
        }
        return what == 1 ? times.get(0) : times.get(times.size() - 1);
    }

    int look() {
        int[][] at = walk(now);
        List<Integer> times = allTimes(at);
        int best = -1;
        int least = times.size();
        for (int p = 0; p < hills.places.size(); p++) {
            Map<List<Integer>, Integer> alike = new HashMap<>();
            int most = 0;
            for (int minute : times) {
                List<Integer> who = new ArrayList<>();
                for (int w = 0; w < hills.men.size(); w++) {
                    if (at[w][minute] == p) {
                        who.add(w);
                    }
                }
                most = Math.max(most, alike.merge(who, 1, Integer::sum));
            }
            if (most < least) {
                least = most;
                best = p;
            }
        }
        return best;
    }

    int deputies(int hour) {
        if (hour != -1 && !isHour(hour)) {
            return -2;
        }
        int[][] at = walk(now);
        List<Integer> open = new ArrayList<>();
        for (int h = 0; h < hills.hours.size(); h++) {
            if (now.dead[now.by[h]]) {
                open.add(h);
            }
        }
        int n = hills.men.size();
        int rows = 1;
        for (int i = 0; i < open.size(); i++) {
            rows *= n;
        }
        int least = -1;
        int[] best = null;
        for (int row = 0; row < rows; row++) {
            int[] who = new int[6];
            Arrays.fill(who, -1);
            int rest = row;
            for (int i = open.size() - 1; i >= 0; i--) {
                who[open.get(i)] = rest % n;
                rest /= n;
            }
            int off = 0;
            Set<Integer> used = new HashSet<>();
            boolean good = true;
            for (int h : open) {
                int w = who[h];
                good &= used.add(w) && !now.dead[w] && hills.men.get(w).round.contains(hills.hours.get(h).place);
                off += offBy(at, h, w);
            }
            if (good && (least < 0 || off < least)) {
                least = off;
                best = who;
            }
        }
        if (best == null) {
            return -2;
        }
        return hour == -1 ? least : best[hour];
    }

    int sure(int one, int other, int what) {
        if (!isMan(one) || !isMan(other) || one == other || what < 0 || what > 1) {
            return -1;
        }
        Moment in = now.copy();
        in.snow = true;
        Moment out = now.copy();
        out.snow = false;
        int best = -1;
        int least = 1000;
        for (int p = 0; p < hills.places.size(); p++) {
            int a = firstMeet(walk(in), one, other, p);
            int b = firstMeet(walk(out), one, other, p);
            if (a >= 0 && b >= 0 && Math.max(a, b) < least) {
                least = Math.max(a, b);
                best = p;
            }
        }
        return best < 0 ? -1 : what == 0 ? best : least;
    }

    int soonest(int place, int minute, int some) {
        if (!isPlace(place) || minute < 0 || minute > 239 || some < 0 || some >= 1 << hills.men.size()) {
            return -1;
        }
        int[][] at = walk(now);
        List<Set<List<Integer>>> reached = new ArrayList<>();
        for (int t = 0; t < 240; t++) {
            reached.add(new HashSet<>());
        }
        reached.get(minute).add(Arrays.asList(place, 0));
        for (int t = minute; t < 240; t++) {
            for (List<Integer> one : reached.get(t)) {
                int p = one.get(0);
                int met = one.get(1);
                for (int w = 0; w < hills.men.size(); w++) {
                    if (at[w][t] == p) {
                        met |= 1 << w;
                    }
                }
                if ((met & some) == some) {
                    return t;
                }
                if (t < 239) {
                    reached.get(t + 1).add(Arrays.asList(p, met));
                }
                for (int q = 0; q < hills.places.size(); q++) {
                    int then = t + hills.path(p, q) * (now.snow ? 2 : 1);
                    if (hills.path(p, q) > 0 && then < 240) {
                        reached.get(then).add(Arrays.asList(q, met));
                    }
                }
            }
        }
        return -1;
    }

    int lonely(int what) {
        int[][] at = walk(now);
        int longest = 0;
        int first = -1;
        for (int from = 0; from < 240; from++) {
            int to = from;
            while (to < 240 && isLonely(at, to)) {
                to++;
            }
            if (to - from > longest) {
                longest = to - from;
                first = from;
            }
        }
        return what < 0 || what > 1 || longest == 0 ? -1 : what == 0 ? longest : first;
    }

    private boolean isLonely(int[][] at, int minute) {
        for (int a = 0; a < at.length; a++) {
            for (int b = 0; b < a; b++) {
                if (at[a][minute] >= 0 && at[a][minute] == at[b][minute]) {
                    return false;
                }
            }
        }
        return true;
    }

    boolean tell(int h, int minute) {
        if (!isHour(h) || minute < -1 || minute > 239) {
            return false;
        }
        told.put(h, minute);
        return true;
    }

    int sets(int minutes, int what) {
        if (minutes < 1 || minutes > 60 || what < 0 || what > 3) {
            return -1;
        }
        List<Integer> good = new ArrayList<>();
        for (int set = 0; set < 1 << hills.men.size(); set++) {
            Moment m = now.copy();
            for (int w = 0; w < hills.men.size(); w++) {
                m.late[w] += (set >> w & 1) * minutes;
            }
            int[][] at = walk(m);
            boolean so = true;
            for (Map.Entry<Integer, Integer> e : told.entrySet()) {
                so &= minuteBy(at, e.getKey(), m.by[e.getKey()]) == e.getValue();
            }
            if (so) {
                good.add(set);
            }
        }
        if (what == 0) {
            return good.size();
        }
        if (good.isEmpty()) {
            return -1;
        }
        int all = ~0;
        int some = 0;
        for (int set : good) {
            all &= set;
            some |= set;
        }
        good.sort((a, b) -> Integer.bitCount(a) != Integer.bitCount(b)
            ? Integer.bitCount(a) - Integer.bitCount(b) : a - b);
        return what == 1 ? all : what == 2 ? some : good.get(0);
    }

    /** What the first and the second one get of their waits. */
    private static int[] gains(int one, int other, int gets, int a, int b) {
        int[] gain = new int[2];
        int difference = Math.abs(one - other);
        boolean meet = one == other || difference <= (one < other ? a : b);
        if (meet) {
            gain[0] = gets;
            gain[1] = gets;
        }
        if (one < other) {
            gain[0] -= Math.min(a, difference);
        }
        if (other < one) {
            gain[1] -= Math.min(b, difference);
        }
        return gain;
    }

    int rests(int one, int other, int gets, int what) {
        if (one < 0 || one > 9 || other < 0 || other > 9 || gets < 0 || gets > 20) {
            throw new NoSuchElementException();
        }
        List<Integer> rests = new ArrayList<>();
        for (int a = 0; a < 10; a++) {
            for (int b = 0; b < 10; b++) {
                boolean rest = true;
                for (int c = 0; c < 10; c++) {
                    rest &= gains(one, other, gets, c, b)[0] <= gains(one, other, gets, a, b)[0];
                    rest &= gains(one, other, gets, a, c)[1] <= gains(one, other, gets, a, b)[1];
                }
                if (rest) {
                    rests.add(10 * a + b);
                }
            }
        }
        if (what == -1) {
            return rests.size();
        }
        if (what < 0 || what >= rests.size()) {
            throw new NoSuchElementException();
        }
        return rests.get(what);
    }

    private long g;

    private int draw(int m) {
        g = (g * 1103515245L + 12345L) % 2147483648L;
        return (int) (g / 65536 % m);
    }

    int years(int seed, int days, int what) {
        if (seed < 0 || seed > 9999 || days < 1 || days > 20 || what < 0 || what > 2) {
            return -1;
        }
        g = seed;
        Moment m = now.copy();
        int[] sums = new int[3];
        for (int d = 0; d < days; d++) {
            if (draw(8) == 0) {
                m.snow = true;
            }
            for (int w = 0; w < hills.men.size(); w++) {
                if (draw(4) == 0) {
                    m.late[w] = draw(30);
                }
            }
            int[][] at = walk(m);
            for (int a = 0; a < at.length; a++) {
                for (int b = 0; b < a; b++) {
                    sums[2] += firstMeet(at, a, b, -1) >= 0 ? 1 : 0;
                }
            }
            sums[1] += nones(m);
            sums[0] += pass(m);
        }
        return sums[what];
    }

    boolean mark(int mark, boolean back) {
        if (mark < 0 || mark > 3 || back && marks[mark] == null) {
            return false;
        }
        if (back) {
            now = marks[mark].moment.copy();
            lines = new ArrayList<>(marks[mark].lines);
            seen = new ArrayList<>(marks[mark].seen);
            told = new TreeMap<>(marks[mark].told);
            past.clear();
            return true;
        }
        marks[mark] = new Held();
        marks[mark].moment = now.copy();
        marks[mark].lines = new ArrayList<>(lines);
        marks[mark].seen = new ArrayList<>(seen);
        marks[mark].told = new TreeMap<>(told);
        return true;
    }

    int count(int what) {
        int alive = 0;
        for (int w = 0; w < hills.men.size(); w++) {
            alive |= now.dead[w] ? 0 : 1 << w;
        }
        int[] counts = {hills.places.size(), hills.men.size(), hills.hours.size(), hills.paths.size(), hills.waits,
            now.day, now.missed, alive, now.snow ? 1 : 0, lines.size(), seen.size(), told.size(), past.size(),
            tape.length()};
        return what < 0 || what >= counts.length ? -1 : counts[what];
    }
}
