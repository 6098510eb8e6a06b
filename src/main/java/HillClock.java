import java.util.Arrays;
import java.util.NoSuchElementException;

/** Hills without clocks, in which an hour is where somebody is; the document says what each call promises. */
public final class HillClock {
    public static final int NONE = -1;

    private static final int OTHERS = -2;
    /** Places, walkers, lines of waits and hours are this many at most. */
    private static final int MOST = 6;
    private static final int ROUND = 4;
    private static final int DAY = 240;
    private static final int TAPE = 1000;
    private static final int LINES = 30;
    private static final int SIGHTS = 8;
    private static final int MARKS = 4;
    private static final int UNDOS = 16;
    private static final int LATEST = 60;
    private static final int WAITED = 9;
    private static final int GOT = 20;
    private static final int SEEDS = 9999;
    private static final int YEAR = 20;

    private static final int SLOW = 1;
    private static final int IDLE = 2;
    private static final int BRISK = 3;

    private static final int CANT_STAND = 1;
    private static final int UNKNOWN = 2;
    private static final int TOLD_BEFORE = 3;
    private static final int NOT_AS_TOLD = 4;
    private static final int TOO_MANY = 5;

    private final Tape tape = new Tape();
    private final HillsReader reader = new HillsReader(tape);
    /** What is read goes into the spare ones, so that a fault leaves the others alone. */
    private Hills hills = new Hills();
    private Hills spare = new Hills();
    private final Lines spareLines = new Lines();
    private final Standing now = new Standing();
    private final Standing[] marks = new Standing[MARKS];
    private final State[] past = new State[UNDOS];
    private int oldest;
    private int undoable;
    /** What is only tried out happens to this state. */
    private final State trial = new State();
    private final Walk walk = new Walk();
    private final Sight sight = new Sight();
    private final int[] alike = new int[1 << MOST];
    private final int[] firstMet = new int[MOST];
    private final int[] row = new int[MOST];
    private final int[] bestRow = new int[MOST];
    private int bestOff;
    private long drawn;

    public HillClock() {
        for (int i = 0; i < MARKS; i++) {
            marks[i] = new Standing();
        }
        for (int i = 0; i < UNDOS; i++) {
            past[i] = new State();
        }
    }

    public int feed(long a, long b, long c) {
        tape.append(a);
        tape.append(b);
        tape.append(c);
        return tape.length;
    }

    public int hills() {
        int fault = reader.read(spare);
        if (fault == 0) {
            Hills read = spare;
            spare = hills;
            hills = read;
            now.begin(hills);
            undoable = 0;
            for (int i = 0; i < MARKS; i++) {
                marks[i].laid = false;
            }
        }
        return fault;
    }

    public int days() {
        int fault = spareLines.read(tape, hills);
        if (fault == 0) {
            now.lines.copy(spareLines);
        }
        return fault;
    }

    public int way(int from, int to) {
        return isPlace(from) && isPlace(to) ? hills.ways[from * MOST + to] : NONE;
    }

    public int walker(int walker, int what) {
        if (!isWalker(walker) || what < 0) {
            return NONE;
        }
        Walker who = hills.folk[walker];
        switch (what) {
            case 0:
                return who.kind;
            case 1:
                return now.state.lives(walker) ? 1 : 0;
            case 2:
                return now.state.late[walker];
            default:
                return what - 3 < who.stops ? who.round[what - 3] : NONE;
        }
    }

    public int where(int walker, int minute) {
        if (!isWalker(walker) || !isMinute(minute)) {
            return NONE;
        }
        walk.go(hills, now.state);
        return walk.placeOf(walker, minute);
    }

    public int hour(int hour, int what) {
        if (!isHour(hour) || what < 0 || what > 5) {
            return OTHERS;
        }
        switch (what) {
            case 0:
                return now.state.by[hour];
            case 1:
                return hills.hourPlace[hour];
            case 2:
                return hills.hourMinute[hour];
            default:
                break;
        }
        walk.go(hills, now.state);
        if (what == 3) {
            return walk.minuteOf(hour);
        }
        return what == 4 ? walk.off(hour) : walk.cost(hour);
    }

    public int meet(int one, int other, int what) {
        if (!areTwo(one, other) || what < 0 || what > 1) {
            return OTHERS;
        }
        walk.go(hills, now.state);
        int minute = walk.firstMeeting(one, other);
        return what == 0 || minute == NONE ? minute : walk.placeOf(one, minute);
    }

    public boolean late(int walker, int minutes) {
        if (!isWalker(walker) || minutes < 0 || minutes > LATEST) {
            return false;
        }
        remember();
        now.state.late[walker] = minutes;
        return true;
    }

    public boolean dies(int walker) {
        if (!isWalker(walker) || !now.state.lives(walker)) {
            return false;
        }
        remember();
        now.state.bury(walker);
        return true;
    }

    public boolean deputy(int hour, int walker) {
        if (!isHour(hour) || !isWalker(walker) || !now.state.canDepute(hills, hour, walker)) {
            return false;
        }
        remember();
        now.state.by[hour] = walker;
        return true;
    }

    public boolean snow() {
        if (now.state.snows) {
            return false;
        }
        remember();
        now.state.snows = true;
        return true;
    }

    public int day() {
        remember();
        walk.go(hills, now.state);
        int cost = walk.costs();
        now.state.pass(cost);
        return cost;
    }

    public boolean undo() {
        if (undoable == 0) {
            return false;
        }
        undoable--;
        now.state.copy(past[(oldest + undoable) % UNDOS]);
        return true;
    }

    public int judged(int what) {
        if (what < 0 || what > 2) {
            return OTHERS;
        }
        Lines lines = now.lines;
        int cant = NONE;
        int missing = NONE;
        trial.begin(hills);
        for (int i = 0; i < lines.size; i++) {
            if (!lines.can(i, hills, trial)) {
                cant = cant == NONE ? i : cant;
            } else if (lines.isDay(i)) {
                walk.go(hills, trial);
                missing = missing == NONE && walk.missing() > 0 ? i : missing;
                trial.pass(walk.costs());
            } else {
                lines.happen(i, trial);
            }
        }
        if (what == 2) {
            return trial.missed;
        }
        return what == 0 ? cant : missing;
    }

    public boolean see(int walker, int place, boolean is) {
        return isWalker(walker) && isPlace(place) && now.addSeen(walker, place, is);
    }

    public int times(int what) {
        if (what < 0 || what > 2) {
            return NONE;
        }
        lookRound();
        int many = 0;
        int first = NONE;
        int last = NONE;
        for (int minute = 0; minute < DAY; minute++) {
            if (now.canBe(sight, minute)) {
                many++;
                first = first == NONE ? minute : first;
                last = minute;
            }
        }
        if (what == 0) {
            return many;
        }
        return what == 1 ? first : last;
    }

    public int look() {
        lookRound();
        int best = NONE;
        int least = 0;
        for (int minute = 0; minute < DAY; minute++) {
            if (now.canBe(sight, minute)) {
                least++;
            }
        }
        for (int place = 0; place < hills.places; place++) {
            int most = mostAlike(place);
            if (most < least) {
                least = most;
                best = place;
            }
        }
        return best;
    }

    public int deputies(int hour) {
        if (hour < NONE || hour >= hills.hours) {
            return OTHERS;
        }
        walk.go(hills, now.state);
        bestOff = NONE;
        chooseDeputies(0, 0, 0);
        if (bestOff == NONE) {
            return OTHERS;
        }
        return hour == NONE ? bestOff : bestRow[hour];
    }

    public int sure(int one, int other, int what) {
        if (!areTwo(one, other) || what < 0 || what > 1) {
            return NONE;
        }
        trial.copy(now.state);
        trial.snows = false;
        walk.go(hills, trial);
        for (int place = 0; place < hills.places; place++) {
            firstMet[place] = walk.firstMeetingAt(one, other, place);
        }
        trial.snows = true;
        walk.go(hills, trial);
        int best = NONE;
        int least = DAY;
        for (int place = 0; place < hills.places; place++) {
            int inSnow = walk.firstMeetingAt(one, other, place);
            int later = Math.max(inSnow, firstMet[place]);
            if (inSnow != NONE && firstMet[place] != NONE && later < least) {
                least = later;
                best = place;
            }
        }
        return what == 0 || best == NONE ? best : least;
    }

    public int soonest(int place, int minute, int some) {
        if (!isPlace(place) || !isMinute(minute) || some < 0 || some >= 1 << hills.walkers) {
            return NONE;
        }
        lookRound();
        return sight.firstToHaveMet(hills, now.state.snows, place, minute, some);
    }

    public int lonely(int what) {
        if (what < 0 || what > 1) {
            return NONE;
        }
        lookRound();
        int longest = 0;
        int from = NONE;
        int length = 0;
        for (int minute = 0; minute < DAY; minute++) {
            length = sight.isMeeting(minute) ? 0 : length + 1;
            if (length > longest) {
                longest = length;
                from = minute - length + 1;
            }
        }
        return what == 0 && longest > 0 ? longest : from;
    }

    public boolean tell(int hour, int minute) {
        if (!isHour(hour) || minute != NONE && !isMinute(minute)) {
            return false;
        }
        now.told[hour] = minute;
        return true;
    }

    public int sets(int minutes, int what) {
        if (minutes < 1 || minutes > LATEST || what < 0 || what > 3) {
            return NONE;
        }
        int many = 0;
        int inAll = (1 << hills.walkers) - 1;
        int inSome = 0;
        int smallest = NONE;
        for (int set = 0; set < 1 << hills.walkers; set++) {
            trial.copy(now.state);
            trial.delay(set, minutes);
            walk.go(hills, trial);
            if (now.isAsTold(hills, walk)) {
                many++;
                inAll &= set;
                inSome |= set;
                if (smallest == NONE || Integer.bitCount(set) < Integer.bitCount(smallest)) {
                    smallest = set;
                }
            }
        }
        if (what == 0 || many == 0) {
            return what == 0 ? many : NONE;
        }
        if (what == 3) {
            return smallest;
        }
        return what == 1 ? inAll : inSome;
    }

    public int rests(int one, int other, int gets, int what) throws NoSuchElementException {
        if (one < 0 || one > WAITED || other < 0 || other > WAITED || gets < 0 || gets > GOT || what < NONE) {
            throw new NoSuchElementException();
        }
        int many = 0;
        for (int wait = 0; wait <= WAITED; wait++) {
            for (int othersWait = 0; othersWait <= WAITED; othersWait++) {
                if (isRest(one - other, gets, wait, othersWait) && isRest(other - one, gets, othersWait, wait)) {
                    if (many == what) {
                        return 10 * wait + othersWait;
                    }
                    many++;
                }
            }
        }
        if (what != NONE) {
            throw new NoSuchElementException();
        }
        return many;
    }

    public int years(int seed, int days, int what) {
        if (seed < 0 || seed > SEEDS || days < 1 || days > YEAR || what < 0 || what > 2) {
            return NONE;
        }
        int sum = 0;
        drawn = seed;
        trial.copy(now.state);
        for (int i = 0; i < days; i++) {
            drawDay();
            walk.go(hills, trial);
            int cost = walk.costs();
            if (what == 0) {
                sum += cost;
            } else {
                sum += what == 1 ? walk.missing() : walk.meetings();
            }
            trial.pass(cost);
        }
        return sum;
    }

    public boolean mark(int mark, boolean back) {
        if (mark < 0 || mark >= MARKS || back && !marks[mark].laid) {
            return false;
        }
        if (back) {
            now.copy(marks[mark]);
            undoable = 0;
        } else {
            marks[mark].copy(now);
            marks[mark].laid = true;
        }
        return true;
    }

    public int count(int what) {
        switch (what) {
            case 0:
                return hills.places;
            case 1:
                return hills.walkers;
            case 2:
                return hills.hours;
            case 3:
                return hills.paths;
            case 4:
                return hills.waits;
            case 5:
                return now.state.day;
            case 6:
                return now.state.missed;
            case 7:
                return now.state.alive;
            case 8:
                return now.state.snows ? 1 : 0;
            case 9:
                return now.lines.size;
            case 10:
                return now.seen;
            case 11:
                return now.hoursTold(hills);
            case 12:
                return undoable;
            case 13:
                return tape.length;
            default:
                return NONE;
        }
    }

    private boolean isPlace(int place) {
        return place >= 0 && place < hills.places;
    }

    private boolean isWalker(int walker) {
        return walker >= 0 && walker < hills.walkers;
    }

    private boolean areTwo(int one, int other) {
        return isWalker(one) && isWalker(other) && one != other;
    }

    private boolean isHour(int hour) {
        return hour >= 0 && hour < hills.hours;
    }

    private boolean isMinute(int minute) {
        return minute >= 0 && minute < DAY;
    }

    /** Keeps the state as it is before something is done by hand; of too many the oldest is lost. */
    private void remember() {
        if (undoable == UNDOS) {
            oldest = (oldest + 1) % UNDOS;
            undoable--;
        }
        past[(oldest + undoable) % UNDOS].copy(now.state);
        undoable++;
    }

    private void lookRound() {
        walk.go(hills, now.state);
        sight.take(walk, hills.walkers);
    }

    /** How many of the times, at most, show the same walkers at a place. */
    private int mostAlike(int place) {
        int most = 0;
        Arrays.fill(alike, 0);
        for (int minute = 0; minute < DAY; minute++) {
            if (now.canBe(sight, minute)) {
                int who = sight.at(place, minute);
                alike[who]++;
                most = Math.max(most, alike[who]);
            }
        }
        return most;
    }

    /** Tries all rows from an hour on in their order, so that of equal ones the first stays the best. */
    private void chooseDeputies(int hour, int used, int off) {
        if (hour >= hills.hours) {
            if (bestOff == NONE || off < bestOff) {
                bestOff = off;
                System.arraycopy(row, 0, bestRow, 0, MOST);
            }
            return;
        }
        if (now.state.lives(now.state.by[hour])) {
            row[hour] = NONE;
            chooseDeputies(hour + 1, used, off);
            return;
        }
        for (int walker = 0; walker < hills.walkers; walker++) {
            boolean free = (used >> walker & 1) == 0;
            if (free && now.state.canDepute(hills, hour, walker)) {
                row[hour] = walker;
                chooseDeputies(hour + 1, used | 1 << walker, off + walk.offBy(hour, walker));
            }
        }
    }

    /** Whether one who comes by so much later than the other one would not get more by another wait than his. */
    private static boolean isRest(int later, int gets, int wait, int othersWait) {
        int has = gain(later, gets, wait, othersWait);
        for (int another = 0; another <= WAITED; another++) {
            if (gain(later, gets, another, othersWait) > has) {
                return false;
            }
        }
        return true;
    }

    private static int gain(int later, int gets, int wait, int othersWait) {
        if (later >= 0) {
            return later <= othersWait ? gets : 0;
        }
        return -later <= wait ? gets + later : -wait;
    }

    private void drawDay() {
        if (draw(8) == 0) {
            trial.snows = true;
        }
        for (int walker = 0; walker < hills.walkers; walker++) {
            if (draw(4) == 0) {
                trial.late[walker] = draw(30);
            }
        }
    }

    private int draw(int below) {
        drawn = (drawn * 1103515245L + 12345L) % 2147483648L;
        return below > 0 ? (int) (drawn / 65536L % below) : 0;
    }

    /** The words of the language; the facts may be names, too. */
    private enum Word {
        PLACE("place"), PATH("path"), WALKER("walker"), START("start"), PACE("pace"), HALT("halt"), ROUND("round"),
        WAITS("waits"), AT("at"), FOR("for"), HOUR("hour"), BY("by"), IS("is"), MISSED("missed"),
        LATE("late"), DIES("dies"), DEPUTY("deputy"), SNOW("snow"), DAY("day"),
        PLAIN("plain"), SLOW("slow"), IDLE("idle"), BRISK("brisk"), NOT("not"), AND("and"), OR("or"),
        OFF("off"), NONE("none"), DAYS("days");

        private static final Word[] ALL = values();

        /** As a tape packs the letters of a word. */
        private final long letters;

        Word(String text) {
            long packed = 0;
            for (int i = 0; i < text.length(); i++) {
                packed = packed << 5 | text.charAt(i) - 'a' + 1;
            }
            letters = packed;
        }

        boolean isFact() {
            return this == OFF || this == NONE || this == DAYS;
        }
    }

    /** The signs that were fed, and the token at which a reader of them is. */
    private static final class Tape {
        private static final int WRONG = 0;
        private static final int END = 1;
        private static final int WORD = 2;
        private static final int NUMBER = 3;
        private static final int SIGN = 4;
        private static final int LONGEST_WORD = 8;
        private static final int LONGEST_NUMBER = 4;

        int length;
        int fault;
        /** The word at which the reader is; null if it is none of the language's. */
        Word word;
        /** The letters of the word, five bits each. */
        long name;
        int number;
        private final char[] signs = new char[TAPE];
        private int kind;
        private int at;
        private int end;

        void append(long bytes) {
            for (int shift = 56; shift >= 0; shift -= 8) {
                char sign = (char) (bytes >>> shift & 255);
                if ((isBlank(sign) || sign > 32 && sign < 127) && length < TAPE) {
                    signs[length] = sign;
                    length++;
                }
            }
        }

        void open() {
            fault = 0;
            end = 0;
            step();
        }

        /** Ends the reading: the tape is taken; what was its fault. */
        int close() {
            length = 0;
            return fault;
        }

        void step() {
            at = end;
            while (at < length && isBlank(signs[at])) {
                at++;
            }
            end = at;
            word = null;
            if (at >= length) {
                kind = END;
            } else if (isLetter(signs[at])) {
                stepOverWord();
            } else if (isDigit(signs[at])) {
                stepOverNumber();
            } else {
                end = at + 1;
                kind = "()<=+-*;".indexOf(signs[at]) >= 0 ? SIGN : WRONG;
            }
        }

        private void stepOverWord() {
            name = 0;
            while (end < length && isLetter(signs[end])) {
                name = name << 5 | signs[end] - 'a' + 1;
                end++;
            }
            kind = end - at <= LONGEST_WORD ? WORD : WRONG;
            for (int i = 0; i < Word.ALL.length && kind == WORD; i++) {
                if (Word.ALL[i].letters == name) {
                    word = Word.ALL[i];
                }
            }
        }

        private void stepOverNumber() {
            number = 0;
            while (end < length && isDigit(signs[end])) {
                number = number * 10 + signs[end] - '0';
                end++;
            }
            kind = end - at <= LONGEST_NUMBER ? NUMBER : WRONG;
        }

        boolean isEnd() {
            return kind == END;
        }

        boolean isName() {
            return kind == WORD && (word == null || word.isFact());
        }

        boolean isNumber() {
            return kind == NUMBER;
        }

        boolean isSign(char sign) {
            return kind == SIGN && signs[at] == sign;
        }

        /** Notes a fault of the token; answers false, so that a reader can say so at once. */
        boolean wrong(int fault) {
            this.fault = fault + 16 * at;
            return false;
        }

        boolean take(Word due) {
            if (word != due) {
                return wrong(CANT_STAND);
            }
            step();
            return true;
        }

        boolean takeSign(char sign) {
            if (!isSign(sign)) {
                return wrong(CANT_STAND);
            }
            step();
            return true;
        }

        /** Takes a number; NONE if it is wrong. */
        int takeNumber(int least, int most) {
            if (!isNumber() || number < least || number > most) {
                wrong(isNumber() ? NOT_AS_TOLD : CANT_STAND);
                return NONE;
            }
            int taken = number;
            step();
            return taken;
        }

        /** Which of some names the token is, without taking it; NONE if it is wrong. */
        int which(long[] names, int size) {
            if (!isName()) {
                wrong(CANT_STAND);
                return NONE;
            }
            int found = find(names, size, name);
            if (found == NONE) {
                wrong(UNKNOWN);
            }
            return found;
        }

        static int find(long[] names, int size, long name) {
            for (int i = 0; i < size && i < names.length; i++) {
                if (names[i] == name) {
                    return i;
                }
            }
            return NONE;
        }

        private static boolean isBlank(char sign) {
            return sign == 10 || sign == 32;
        }

        private static boolean isLetter(char sign) {
            return sign >= 'a' && sign <= 'z';
        }

        private static boolean isDigit(char sign) {
            return sign >= '0' && sign <= '9';
        }
    }

    /** What a missed hour costs: numbers (from 0 on) and operators (below 0), each behind what it works on. */
    private static final class Law {
        private static final int DEEPEST = 5;
        private static final int STACK = 64;
        private static final int DEAREST = 999;

        /** The levels of the grammar, from what binds least on. */
        private static final int ALL = 0;
        private static final int TEST = 1;
        private static final int SUM = 2;
        private static final int PRODUCT = 3;

        private static final int NOTHING = -1;
        private static final int OFF = -2;
        private static final int MISSING = -3;
        private static final int DAYS = -4;
        private static final int NOT = -5;
        private static final int AND = -6;
        private static final int OR = -7;
        private static final int LESS = -8;
        private static final int SAME = -9;
        private static final int PLUS = -10;
        private static final int MINUS = -11;
        private static final int TIMES = -12;

        private final int[] code = new int[TAPE];
        private final int[] stack = new int[STACK];
        private int length;
        private int top;

        void begin() {
            length = 0;
            put(OFF);
        }

        void clear() {
            length = 0;
        }

        private void put(int step) {
            if (length < code.length) {
                code[length] = step;
                length++;
            }
        }

        private boolean readLevel(Tape tape, int level, int depth) {
            if (level > PRODUCT) {
                return readPart(tape, depth);
            }
            if (!readLevel(tape, level + 1, depth)) {
                return false;
            }
            for (int i = 0; i < TAPE; i++) {
                int operator = operatorOf(tape, level);
                if (operator == NOTHING || level == TEST && i > 0) {
                    return true;
                }
                tape.step();
                if (!readLevel(tape, level + 1, depth)) {
                    return false;
                }
                put(operator);
            }
            return true;
        }

        private static int operatorOf(Tape tape, int level) {
            switch (level) {
                case ALL:
                    return tape.word == Word.AND ? AND : tape.word == Word.OR ? OR : NOTHING;
                case TEST:
                    return tape.isSign('<') ? LESS : tape.isSign('=') ? SAME : NOTHING;
                case SUM:
                    return tape.isSign('+') ? PLUS : tape.isSign('-') ? MINUS : NOTHING;
                default:
                    return tape.isSign('*') ? TIMES : NOTHING;
            }
        }

        private boolean readPart(Tape tape, int depth) {
            boolean opens = tape.isSign('(');
            boolean denies = tape.word == Word.NOT;
            int leaf = leafOf(tape);
            if (!opens && !denies && leaf == NOTHING) {
                return tape.wrong(CANT_STAND);
            }
            if (depth >= DEEPEST) {
                return tape.wrong(TOO_MANY);
            }
            tape.step();
            if (opens) {
                return readLevel(tape, ALL, depth + 1) && tape.takeSign(')');
            }
            if (denies && !readPart(tape, depth + 1)) {
                return false;
            }
            put(denies ? NOT : leaf);
            return true;
        }

        private static int leafOf(Tape tape) {
            if (tape.isNumber()) {
                return tape.number;
            }
            if (tape.word == Word.OFF) {
                return OFF;
            }
            if (tape.word == Word.NONE) {
                return MISSING;
            }
            return tape.word == Word.DAYS ? DAYS : NOTHING;
        }

        int cost(int off, boolean missing, int days) {
            top = 0;
            for (int i = 0; i < length; i++) {
                int step = code[i];
                if (step >= 0) {
                    push(step);
                } else if (step == OFF) {
                    push(off);
                } else if (step == MISSING) {
                    push(missing ? 1 : 0);
                } else if (step == DAYS) {
                    push(days);
                } else if (step == NOT) {
                    push(pop() == 0 ? 1 : 0);
                } else {
                    int right = pop();
                    push(worth(step, pop(), right));
                }
            }
            return Math.max(0, Math.min(DEAREST, pop()));
        }

        private static int worth(int operator, int left, int right) {
            switch (operator) {
                case AND:
                    return left != 0 && right != 0 ? 1 : 0;
                case OR:
                    return left != 0 || right != 0 ? 1 : 0;
                case LESS:
                    return left < right ? 1 : 0;
                case SAME:
                    return left == right ? 1 : 0;
                case PLUS:
                    return left + right;
                case MINUS:
                    return left - right;
                default:
                    return left * right;
            }
        }

        private void push(int value) {
            if (top < stack.length) {
                stack[top] = value;
                top++;
            }
        }

        private int pop() {
            if (top <= 0) {
                return 0;
            }
            top--;
            return stack[top];
        }
    }

    /** A walker as he was told. */
    private static final class Walker {
        int kind;
        int start;
        int pace;
        int halt;
        int stops;
        final int[] round = new int[ROUND];
        /** For whom he waits at each place; NONE: for nobody. */
        final int[] waitsFor = new int[MOST];
        final int[] waitsMinutes = new int[MOST];

        void begin() {
            stops = 0;
            Arrays.fill(waitsFor, NONE);
        }

        boolean passes(int place) {
            for (int i = 0; i < stops; i++) {
                if (round[i] == place) {
                    return true;
                }
            }
            return false;
        }

        int rest() {
            return kind == IDLE ? 2 * halt : halt;
        }

        int minutesFor(int way, boolean snows) {
            int minutes = way * (kind == SLOW ? pace + 1 : pace);
            return snows && kind != BRISK ? 2 * minutes : minutes;
        }
    }

    /** Hills as they were told: what no day changes. */
    private static final class Hills {
        int places;
        int walkers;
        int hours;
        int paths;
        int waits;
        final long[] placeNames = new long[MOST];
        final long[] walkerNames = new long[MOST];
        final long[] hourNames = new long[MOST];
        /** The minutes of the path between two places; 0: there is none. */
        final int[] path = new int[MOST * MOST];
        final int[] ways = new int[MOST * MOST];
        final Walker[] folk = new Walker[MOST];
        final int[] hourBy = new int[MOST];
        final int[] hourPlace = new int[MOST];
        final int[] hourMinute = new int[MOST];
        final Law law = new Law();

        Hills() {
            for (int i = 0; i < MOST; i++) {
                folk[i] = new Walker();
            }
            begin();
        }

        private void begin() {
            places = 0;
            walkers = 0;
            hours = 0;
            paths = 0;
            waits = 0;
            Arrays.fill(path, 0);
            law.begin();
        }

        boolean isTold(long name) {
            return Tape.find(placeNames, places, name) != NONE
                || Tape.find(walkerNames, walkers, name) != NONE
                || Tape.find(hourNames, hours, name) != NONE;
        }

        void findWays() {
            for (int from = 0; from < places; from++) {
                for (int to = 0; to < places; to++) {
                    int minutes = path[from * MOST + to];
                    ways[from * MOST + to] = from == to ? 0 : minutes > 0 ? minutes : NONE;
                }
            }
            for (int over = 0; over < places; over++) {
                for (int from = 0; from < places; from++) {
                    for (int to = 0; to < places; to++) {
                        shorten(from, over, to);
                    }
                }
            }
        }

        private void shorten(int from, int over, int to) {
            int before = ways[from * MOST + over];
            int behind = ways[over * MOST + to];
            int direct = ways[from * MOST + to];
            if (before != NONE && behind != NONE && (direct == NONE || before + behind < direct)) {
                ways[from * MOST + to] = before + behind;
            }
        }
    }

    /** Reads hills from the tape, line by line, up to the first fault. */
    private static final class HillsReader {
        private static final int LONGEST_PATH = 30;
        private static final int HARDEST_PACE = 5;
        private static final int LONGEST_HALT = 30;
        private static final int LONGEST_WAIT = 60;

        private final Tape tape;
        private Hills hills;
        private boolean lawTold;

        HillsReader(Tape tape) {
            this.tape = tape;
        }

        /** Reads all that is on the tape; 0, or its fault. */
        int read(Hills into) {
            hills = into;
            hills.begin();
            lawTold = false;
            tape.open();
            boolean right = true;
            for (int i = 0; i < TAPE && right && !tape.isEnd(); i++) {
                Word first = tape.word;
                if (first == Word.PLACE) {
                    right = canBegin(hills.places) && readPlace();
                } else if (first == Word.PATH) {
                    right = tape.take(first) && readPath();
                } else if (first == Word.WALKER) {
                    right = canBegin(hills.walkers) && readWalker();
                } else if (first == Word.WAITS) {
                    right = canBegin(hills.waits) && readWaits();
                } else if (first == Word.HOUR) {
                    right = canBegin(hills.hours) && readHour();
                } else {
                    right = first == Word.MISSED ? readMissed() : tape.wrong(CANT_STAND);
                }
            }
            hills.findWays();
            return tape.close();
        }

        /** Takes the first word of a line, if there are not too many of its kind. */
        private boolean canBegin(int size) {
            if (size >= MOST) {
                return tape.wrong(TOO_MANY);
            }
            tape.step();
            return true;
        }

        private boolean readNewName(long[] names, int size) {
            if (!tape.isName()) {
                return tape.wrong(CANT_STAND);
            }
            if (hills.isTold(tape.name)) {
                return tape.wrong(TOLD_BEFORE);
            }
            names[size] = tape.name;
            tape.step();
            return true;
        }

        private int whichPlace() {
            return tape.which(hills.placeNames, hills.places);
        }

        private int whichWalker() {
            return tape.which(hills.walkerNames, hills.walkers);
        }

        /** Takes a walker and the word at behind him; NONE if one of them is wrong. */
        private int takeWalkerAt() {
            int walker = whichWalker();
            if (walker == NONE) {
                return NONE;
            }
            tape.step();
            return tape.take(Word.AT) ? walker : NONE;
        }

        private boolean readPlace() {
            if (!readNewName(hills.placeNames, hills.places)) {
                return false;
            }
            hills.places++;
            return tape.takeSign(';');
        }

        private boolean readPath() {
            int one = whichPlace();
            if (one == NONE) {
                return false;
            }
            tape.step();
            int other = whichPlace();
            if (other == NONE) {
                return false;
            }
            if (other == one || hills.path[one * MOST + other] > 0) {
                return tape.wrong(TOLD_BEFORE);
            }
            tape.step();
            int minutes = tape.takeNumber(1, LONGEST_PATH);
            if (minutes == NONE) {
                return false;
            }
            hills.path[one * MOST + other] = minutes;
            hills.path[other * MOST + one] = minutes;
            hills.paths++;
            return tape.takeSign(';');
        }

        private boolean readWalker() {
            if (!readNewName(hills.walkerNames, hills.walkers)) {
                return false;
            }
            Walker who = hills.folk[hills.walkers];
            who.begin();
            who.kind = takeKind();
            if (who.kind == NONE || !tape.take(Word.START)) {
                return false;
            }
            who.start = tape.takeNumber(0, DAY - 1);
            if (who.start == NONE || !tape.take(Word.PACE)) {
                return false;
            }
            who.pace = tape.takeNumber(1, HARDEST_PACE);
            if (who.pace == NONE || !tape.take(Word.HALT)) {
                return false;
            }
            who.halt = tape.takeNumber(0, LONGEST_HALT);
            if (who.halt == NONE || !tape.take(Word.ROUND) || !readRound(who)) {
                return false;
            }
            hills.walkers++;
            return tape.takeSign(';');
        }

        private int takeKind() {
            Word word = tape.word;
            int kind = word == Word.PLAIN ? 0
                : word == Word.SLOW ? SLOW : word == Word.IDLE ? IDLE : word == Word.BRISK ? BRISK : NONE;
            if (kind == NONE) {
                tape.wrong(CANT_STAND);
            } else {
                tape.step();
            }
            return kind;
        }

        private boolean readRound(Walker who) {
            for (int i = 0; i <= ROUND; i++) {
                if (i >= 2 && tape.isSign(';')) {
                    return true;
                }
                int place = whichPlace();
                if (place == NONE) {
                    return false;
                }
                if (i > 0 && who.round[i - 1] == place) {
                    return tape.wrong(TOLD_BEFORE);
                }
                if (i >= ROUND) {
                    return tape.wrong(TOO_MANY);
                }
                who.round[i] = place;
                who.stops++;
                tape.step();
            }
            return true;
        }

        private boolean readWaits() {
            int walker = takeWalkerAt();
            int place = walker == NONE ? NONE : whichPlace();
            if (place == NONE) {
                return false;
            }
            Walker who = hills.folk[walker];
            if (who.waitsFor[place] != NONE) {
                return tape.wrong(TOLD_BEFORE);
            }
            tape.step();
            int other = tape.take(Word.FOR) ? whichWalker() : NONE;
            if (other == NONE) {
                return false;
            }
            if (other == walker) {
                return tape.wrong(TOLD_BEFORE);
            }
            tape.step();
            int minutes = tape.takeNumber(1, LONGEST_WAIT);
            if (minutes == NONE) {
                return false;
            }
            who.waitsFor[place] = other;
            who.waitsMinutes[place] = minutes;
            hills.waits++;
            return tape.takeSign(';');
        }

        private boolean readHour() {
            int hour = hills.hours;
            if (!readNewName(hills.hourNames, hour) || !tape.take(Word.BY)) {
                return false;
            }
            int walker = takeWalkerAt();
            int place = walker == NONE ? NONE : whichPlace();
            if (place == NONE) {
                return false;
            }
            if (!hills.folk[walker].passes(place)) {
                return tape.wrong(NOT_AS_TOLD);
            }
            tape.step();
            int minute = tape.take(Word.IS) ? tape.takeNumber(0, DAY - 1) : NONE;
            if (minute == NONE) {
                return false;
            }
            hills.hourBy[hour] = walker;
            hills.hourPlace[hour] = place;
            hills.hourMinute[hour] = minute;
            hills.hours++;
            return tape.takeSign(';');
        }

        private boolean readMissed() {
            if (lawTold) {
                return tape.wrong(TOLD_BEFORE);
            }
            lawTold = true;
            tape.step();
            hills.law.clear();
            return hills.law.readLevel(tape, Law.ALL, 0) && tape.takeSign(';');
        }
    }

    /** The lines of the days. */
    private static final class Lines {
        private static final int LATE = 0;
        private static final int DIES = 1;
        private static final int DEPUTY = 2;
        private static final int SNOW = 3;
        private static final int PASSES = 4;

        int size;
        private final int[] kind = new int[LINES];
        private final int[] walker = new int[LINES];
        /** The minutes or the hour that a line tells beside its walker. */
        private final int[] beside = new int[LINES];

        void copy(Lines other) {
            size = other.size;
            System.arraycopy(other.kind, 0, kind, 0, LINES);
            System.arraycopy(other.walker, 0, walker, 0, LINES);
            System.arraycopy(other.beside, 0, beside, 0, LINES);
        }

        /** Reads all that is on the tape; 0, or its fault. */
        int read(Tape tape, Hills hills) {
            size = 0;
            tape.open();
            boolean right = true;
            for (int i = 0; i < TAPE && right && !tape.isEnd(); i++) {
                right = readLine(tape, hills);
            }
            return tape.close();
        }

        private boolean readLine(Tape tape, Hills hills) {
            int line = kindOf(tape.word);
            if (line == NONE) {
                return tape.wrong(CANT_STAND);
            }
            if (size >= LINES) {
                return tape.wrong(TOO_MANY);
            }
            tape.step();
            kind[size] = line;
            walker[size] = NONE;
            beside[size] = NONE;
            if (line == DEPUTY) {
                beside[size] = tape.which(hills.hourNames, hills.hours);
                if (beside[size] == NONE) {
                    return false;
                }
                tape.step();
            }
            if (line == LATE || line == DIES || line == DEPUTY) {
                walker[size] = tape.which(hills.walkerNames, hills.walkers);
                if (walker[size] == NONE) {
                    return false;
                }
                tape.step();
            }
            if (line == LATE) {
                beside[size] = tape.takeNumber(0, LATEST);
                if (beside[size] == NONE) {
                    return false;
                }
            }
            size++;
            return tape.takeSign(';');
        }

        private static int kindOf(Word word) {
            if (word == Word.LATE) {
                return LATE;
            }
            if (word == Word.DIES) {
                return DIES;
            }
            if (word == Word.DEPUTY) {
                return DEPUTY;
            }
            if (word == Word.SNOW) {
                return SNOW;
            }
            return word == Word.DAY ? PASSES : NONE;
        }

        boolean isDay(int line) {
            return kind[line] == PASSES;
        }

        boolean can(int line, Hills hills, State state) {
            switch (kind[line]) {
                case DIES:
                    return state.lives(walker[line]);
                case DEPUTY:
                    return state.canDepute(hills, beside[line], walker[line]);
                case SNOW:
                    return !state.snows;
                default:
                    return true;
            }
        }

        /** Does what a line tells that can be; a day is not passed here, as that wants its cost. */
        void happen(int line, State state) {
            switch (kind[line]) {
                case LATE:
                    state.late[walker[line]] = beside[line];
                    break;
                case DIES:
                    state.bury(walker[line]);
                    break;
                case DEPUTY:
                    state.by[beside[line]] = walker[line];
                    break;
                case SNOW:
                    state.snows = true;
                    break;
                default:
                    break;
            }
        }
    }

    /** What the days change. */
    private static final class State {
        int day;
        int missed;
        /** A bit for each walker. */
        int alive;
        boolean snows;
        final int[] late = new int[MOST];
        /** By whom each hour is. */
        final int[] by = new int[MOST];

        void begin(Hills hills) {
            day = 0;
            missed = 0;
            alive = (1 << hills.walkers) - 1;
            snows = false;
            Arrays.fill(late, 0);
            System.arraycopy(hills.hourBy, 0, by, 0, MOST);
        }

        void copy(State other) {
            day = other.day;
            missed = other.missed;
            alive = other.alive;
            snows = other.snows;
            System.arraycopy(other.late, 0, late, 0, MOST);
            System.arraycopy(other.by, 0, by, 0, MOST);
        }

        boolean lives(int walker) {
            return (alive >> walker & 1) != 0;
        }

        void bury(int walker) {
            alive &= ~(1 << walker);
        }

        boolean canDepute(Hills hills, int hour, int walker) {
            return lives(walker) && by[hour] != walker && hills.folk[walker].passes(hills.hourPlace[hour]);
        }

        /** All walkers of a set come by so many minutes later than they would. */
        void delay(int set, int minutes) {
            for (int walker = 0; walker < MOST; walker++) {
                if ((set >> walker & 1) != 0) {
                    late[walker] += minutes;
                }
            }
        }

        void pass(int cost) {
            missed += cost;
            day++;
            snows = false;
            Arrays.fill(late, 0);
        }
    }

    /** All that a mark holds. */
    private static final class Standing {
        private static final int NOT_TOLD = -2;

        /** Of a mark alone: whether something is on it. */
        boolean laid;
        final State state = new State();
        final Lines lines = new Lines();
        int seen;
        private final int[] seenWalker = new int[SIGHTS];
        private final int[] seenPlace = new int[SIGHTS];
        /** A bit for each thing seen: that he is there. */
        private int seenThere;
        final int[] told = new int[MOST];

        void begin(Hills hills) {
            state.begin(hills);
            lines.size = 0;
            seen = 0;
            Arrays.fill(told, NOT_TOLD);
        }

        void copy(Standing other) {
            state.copy(other.state);
            lines.copy(other.lines);
            seen = other.seen;
            System.arraycopy(other.seenWalker, 0, seenWalker, 0, SIGHTS);
            System.arraycopy(other.seenPlace, 0, seenPlace, 0, SIGHTS);
            seenThere = other.seenThere;
            System.arraycopy(other.told, 0, told, 0, MOST);
        }

        boolean addSeen(int walker, int place, boolean there) {
            if (seen >= SIGHTS) {
                return false;
            }
            seenWalker[seen] = walker;
            seenPlace[seen] = place;
            seenThere = there ? seenThere | 1 << seen : seenThere & ~(1 << seen);
            seen++;
            return true;
        }

        /** Whether all that is seen is so in a minute. */
        boolean canBe(Sight sight, int minute) {
            for (int i = 0; i < seen; i++) {
                int there = sight.at(seenPlace[i], minute) >> seenWalker[i] & 1;
                if (there != (seenThere >> i & 1)) {
                    return false;
                }
            }
            return true;
        }

        int hoursTold(Hills hills) {
            int many = 0;
            for (int hour = 0; hour < hills.hours; hour++) {
                if (told[hour] != NOT_TOLD) {
                    many++;
                }
            }
            return many;
        }

        boolean isAsTold(Hills hills, Walk walk) {
            for (int hour = 0; hour < hills.hours; hour++) {
                if (told[hour] != NOT_TOLD && told[hour] != walk.minuteOf(hour)) {
                    return false;
                }
            }
            return true;
        }
    }

    /** A day's walks: from when to when each walker is at each place of his round to which he comes. */
    private static final class Walk {
        private static final int NEVER = 1000000;

        private Hills hills;
        private State state;
        private final int[] visits = new int[MOST];
        private final int[] place = new int[MOST * ROUND];
        private final int[] from = new int[MOST * ROUND];
        private final int[] to = new int[MOST * ROUND];
        /** The minute in which each walker comes or goes next. */
        private final int[] next = new int[MOST];
        /** A bit for each walker who is at a place. */
        private int there;

        /** Only minutes in which somebody comes or goes change anything, so all others are left out. */
        void go(Hills hills, State state) {
            this.hills = hills;
            this.state = state;
            there = 0;
            for (int walker = 0; walker < hills.walkers; walker++) {
                visits[walker] = 0;
                next[walker] = state.lives(walker) ? hills.folk[walker].start + state.late[walker] : NEVER;
            }
            int minute = nextMinute();
            for (int i = 0; i < DAY && minute < DAY; i++) {
                comeAll(minute);
                greetAll(minute);
                leaveAll(minute);
                minute = nextMinute();
            }
        }

        private int nextMinute() {
            int least = NEVER;
            for (int walker = 0; walker < hills.walkers; walker++) {
                least = Math.min(least, next[walker]);
            }
            return least;
        }

        private boolean isThere(int walker) {
            return (there >> walker & 1) != 0;
        }

        /** Where the visit that a walker pays now stands in the rows; he must be at a place. */
        private int visitOf(int walker) {
            return walker * ROUND + visits[walker] - 1;
        }

        private void comeAll(int minute) {
            for (int walker = 0; walker < hills.walkers; walker++) {
                if (next[walker] == minute && !isThere(walker) && visits[walker] < ROUND) {
                    Walker who = hills.folk[walker];
                    int visit = walker * ROUND + visits[walker];
                    place[visit] = who.round[visits[walker]];
                    from[visit] = minute;
                    to[visit] = DAY - 1;
                    visits[walker]++;
                    there |= 1 << walker;
                    next[walker] = nextWay(walker) == NONE ? NEVER : minute + longestStay(who, place[visit]);
                }
            }
        }

        /** The way to the next place of his round; NONE if there is none. */
        private int nextWay(int walker) {
            Walker who = hills.folk[walker];
            int stop = visits[walker];
            return stop > 0 && stop < who.stops ? hills.ways[who.round[stop - 1] * MOST + who.round[stop]] : NONE;
        }

        private static int longestStay(Walker who, int place) {
            return who.waitsFor[place] == NONE ? who.rest() : Math.max(who.rest(), who.waitsMinutes[place]);
        }

        /** Who meets whom he waits for goes as soon as he has rested. */
        private void greetAll(int minute) {
            for (int walker = 0; walker < hills.walkers; walker++) {
                if (isThere(walker) && next[walker] != NEVER) {
                    Walker who = hills.folk[walker];
                    int visit = visitOf(walker);
                    int other = who.waitsFor[place[visit]];
                    if (other != NONE && isThere(other) && place[visitOf(other)] == place[visit]) {
                        int rested = Math.max(minute, from[visit] + who.rest());
                        next[walker] = Math.min(next[walker], rested);
                    }
                }
            }
        }

        private void leaveAll(int minute) {
            for (int walker = 0; walker < hills.walkers; walker++) {
                if (isThere(walker) && next[walker] == minute) {
                    to[visitOf(walker)] = minute;
                    there &= ~(1 << walker);
                    next[walker] = minute + hills.folk[walker].minutesFor(nextWay(walker), state.snows);
                }
            }
        }

        int placeOf(int walker, int minute) {
            for (int i = walker * ROUND; i < walker * ROUND + visits[walker]; i++) {
                if (from[i] <= minute && minute <= to[i]) {
                    return place[i];
                }
            }
            return NONE;
        }

        private int firstAt(int walker, int where) {
            for (int i = walker * ROUND; i < walker * ROUND + visits[walker]; i++) {
                if (place[i] == where) {
                    return from[i];
                }
            }
            return NONE;
        }

        int firstMeeting(int one, int other) {
            int first = NONE;
            for (int where = 0; where < hills.places; where++) {
                int minute = firstMeetingAt(one, other, where);
                if (minute != NONE && (first == NONE || minute < first)) {
                    first = minute;
                }
            }
            return first;
        }

        int firstMeetingAt(int one, int other, int where) {
            int first = NONE;
            for (int i = one * ROUND; i < one * ROUND + visits[one]; i++) {
                for (int k = other * ROUND; k < other * ROUND + visits[other]; k++) {
                    int minute = Math.max(from[i], from[k]);
                    boolean met = place[i] == where && place[k] == where && minute <= Math.min(to[i], to[k]);
                    if (met && (first == NONE || minute < first)) {
                        first = minute;
                    }
                }
            }
            return first;
        }

        int minuteOf(int hour) {
            return firstAt(state.by[hour], hills.hourPlace[hour]);
        }

        int off(int hour) {
            return offBy(hour, state.by[hour]);
        }

        int offBy(int hour, int walker) {
            int minute = firstAt(walker, hills.hourPlace[hour]);
            return minute == NONE ? DAY : Math.abs(minute - hills.hourMinute[hour]);
        }

        int cost(int hour) {
            return hills.law.cost(off(hour), minuteOf(hour) == NONE, state.day);
        }

        int costs() {
            int sum = 0;
            for (int hour = 0; hour < hills.hours; hour++) {
                sum += cost(hour);
            }
            return sum;
        }

        /** How many hours are none. */
        int missing() {
            int many = 0;
            for (int hour = 0; hour < hills.hours; hour++) {
                if (minuteOf(hour) == NONE) {
                    many++;
                }
            }
            return many;
        }

        int meetings() {
            int many = 0;
            for (int one = 0; one < hills.walkers; one++) {
                for (int other = one + 1; other < hills.walkers; other++) {
                    if (firstMeeting(one, other) != NONE) {
                        many++;
                    }
                }
            }
            return many;
        }
    }

    /** Who is seen at each place in each minute, a bit for each walker. */
    private static final class Sight {
        private final int[] who = new int[MOST * DAY];
        /** For each place and minute the sets of walkers that can have been met by then, a bit for each set. */
        private final long[] met = new long[MOST * DAY];

        void take(Walk walk, int walkers) {
            Arrays.fill(who, 0);
            for (int walker = 0; walker < walkers; walker++) {
                for (int i = walker * ROUND; i < walker * ROUND + walk.visits[walker]; i++) {
                    for (int minute = walk.from[i]; minute <= walk.to[i]; minute++) {
                        who[walk.place[i] * DAY + minute] |= 1 << walker;
                    }
                }
            }
        }

        int at(int place, int minute) {
            return who[place * DAY + minute];
        }

        boolean isMeeting(int minute) {
            for (int place = 0; place < MOST; place++) {
                if (Integer.bitCount(at(place, minute)) > 1) {
                    return true;
                }
            }
            return false;
        }

        /** The first minute by which one who is at a place from a minute on can have met some; NONE: not this day. */
        int firstToHaveMet(Hills hills, boolean snows, int start, int from, int some) {
            Arrays.fill(met, 0);
            met[start * DAY + from] = 1;
            for (int minute = from; minute < DAY; minute++) {
                for (int place = 0; place < hills.places; place++) {
                    long sets = join(met[place * DAY + minute], at(place, minute) & some);
                    if ((sets >>> some & 1) != 0) {
                        return minute;
                    }
                    if (sets != 0) {
                        spread(hills, snows, place, minute, sets);
                    }
                }
            }
            return NONE;
        }

        /** Adds the same walkers to each of the sets. */
        private static long join(long sets, int added) {
            if (sets == 0 || added == 0) {
                return sets;
            }
            long joined = 0;
            for (int set = 0; set < 1 << MOST; set++) {
                if ((sets >>> set & 1) != 0) {
                    joined |= 1L << (set | added);
                }
            }
            return joined;
        }

        private void spread(Hills hills, boolean snows, int place, int minute, long sets) {
            for (int to = 0; to < hills.places; to++) {
                int path = hills.path[place * MOST + to];
                int minutes = to == place ? 1 : snows ? 2 * path : path;
                if (minutes > 0 && minute + minutes < DAY) {
                    met[to * DAY + minute + minutes] |= sets;
                }
            }
        }
    }
}
