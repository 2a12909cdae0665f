import java.util.Arrays;

/** A house of beds in the dark: who hears what, who is up in time, and at what cost. See DOC.md. */
public final class WakeHouse {
    public static final int NONE = -1;

    private static final int NOBODY = -2;
    private static final int NEVER = -2;
    private static final int MINUTES = 400;
    private static final int MOST_BEDS = 12;
    private static final int MOST_CLOCKS = 9;
    private static final int MOST_SLEEPERS = 12;
    private static final int MOST_SOUNDS = 8;
    private static final int MOST_IN_ROW = 60;
    private static final int LOUDEST = 12;
    private static final int POLE_LOUD = 7;
    private static final int EIGHT = 8;
    private static final int SURELY = 10;
    private static final int RING = 0;
    private static final int STRING = 1;
    private static final int POLE = 2;
    private static final int SLOTS = 2;
    private static final long NO_WORTH = -1000000000000000000L;
    private static final long[] HUNDREDS = {
        1L, 100L, 10000L, 1000000L, 100000000L, 10000000000L,
        1000000000000L, 100000000000000L, 10000000000000000L
    };

    private final Tape tape;
    private final Reader reader;
    private final House house;
    private final State now;
    private final State[] slots;
    private final Night night;
    private final BestTwo bestTwo;
    private final Cover cover;
    private final Shaking shaking;
    private final Round rounds;
    private final Changes changes;
    private int edits;

    public WakeHouse() {
        tape = new Tape();
        house = new House();
        reader = new Reader(tape);
        now = new State();
        slots = new State[SLOTS];
        for (int i = 0; i < SLOTS; i++) {
            slots[i] = new State();
        }
        night = new Night(house, now);
        bestTwo = new BestTwo(house, now, night);
        cover = new Cover(house, now, night);
        shaking = new Shaking(house, now);
        rounds = new Round(house, now);
        changes = new Changes(house, now, night);
        edits = 0;
    }

    public int feed(int a, int b, int c, int d, int e) {
        if (!tape.hasRoom(20)) {
            return NONE;
        }
        tape.putFour(a);
        tape.putFour(b);
        tape.putFour(c);
        tape.putFour(d);
        tape.putFour(e);
        return tape.length;
    }

    public int back(int n) {
        if (n < 0 || n > tape.length) {
            return NONE;
        }
        tape.length -= n;
        return tape.length;
    }

    public int read() {
        int fault = reader.readText();
        if (fault == 0) {
            house.takeFrom(reader.draft);
            now.begin(house);
            night.forget();
            for (int i = 0; i < SLOTS; i++) {
                slots[i].holds = false;
            }
            edits++;
        }
        return fault;
    }

    public int place() {
        return reader.faultAt;
    }

    public int of(int sleeper, int what) {
        if (!isSleeper(sleeper)) {
            return NONE;
        }
        switch (what) {
            case 0: return now.bedOf[sleeper];
            case 1: return house.deep[sleeper];
            case 2: return house.hour[sleeper];
            case 3: return house.late[sleeper];
            case 4: return house.vain[sleeper];
            case 5: return now.woolOf(sleeper);
            default: return NONE;
        }
    }

    public int lies(int bed) {
        return isBed(bed) ? now.sleeperIn[bed] : NONE;
    }

    public int hears(int sleeper, int loud, int bed, int minute) {
        if (!isSleeper(sleeper) || !isLoud(loud) || !isBed(bed) || !isMinute(minute)) {
            return NONE;
        }
        return house.hearing(sleeper, now.bedOf[sleeper], now.woolOf(sleeper), loud, bed, minute);
    }

    public int again(int sleeper, int after) {
        if (!isSleeper(sleeper) || !isMinute(after)) {
            return NONE;
        }
        return night.asleepAgain(sleeper, after);
    }

    public int ring(int clock, int bed, int minute) {
        if (!isClock(clock) || !isBed(bed) || !isMinute(minute)) {
            return NONE;
        }
        return plan(RING, house.soundsAt(clock, minute), house.loud[clock], bed);
    }

    public int string(int sleeper, int minute) {
        if (!isSleeper(sleeper) || !isMinute(minute)) {
            return NONE;
        }
        return plan(STRING, minute, 0, sleeper);
    }

    public int pole(int bed, int minute) {
        if (!isBed(bed) || !isMinute(minute)) {
            return NONE;
        }
        return plan(POLE, minute, POLE_LOUD, bed);
    }

    public int drop(int sound) {
        if (!isSound(sound)) {
            return NONE;
        }
        edits++;
        now.takeOut(sound);
        return now.sounds;
    }

    public int sound(int sound, int what) {
        if (!isSound(sound)) {
            return NONE;
        }
        switch (what) {
            case 0: return now.kind[sound];
            case 1: return now.minute[sound];
            case 2: return now.loud[sound];
            case 3: return now.bedOfSound(sound);
            default: return NONE;
        }
    }

    public boolean wool(int sleeper, boolean on) {
        if (!isSleeper(sleeper)) {
            return false;
        }
        edits++;
        int bit = 1 << sleeper;
        now.wool = on ? now.wool | bit : now.wool & ~bit;
        return true;
    }

    public boolean swap(int bed, int other) {
        if (!isBed(bed) || !isBed(other) || bed == other) {
            return false;
        }
        edits++;
        now.change(bed, other);
        return true;
    }

    public long ways() {
        return HUNDREDS[now.sounds];
    }

    public long up(int sleeper) {
        if (!isSleeper(sleeper)) {
            return -1;
        }
        if (house.hour[sleeper] == NOBODY) {
            return -2;
        }
        night.arrange(NONE);
        night.listen(sleeper);
        return night.upWays(sleeper);
    }

    public long woken(int sleeper) {
        if (!isSleeper(sleeper)) {
            return -1;
        }
        night.arrange(NONE);
        night.listen(sleeper);
        return night.wokenWays();
    }

    public long cost() {
        return night.costWithout(NONE);
    }

    public int worst() {
        int found = NEVER;
        long least = 0;
        for (int sound = 0; sound < now.sounds; sound++) {
            long then = night.costWithout(sound);
            if (found == NEVER || then < least) {
                found = sound;
                least = then;
            }
        }
        return found;
    }

    public int hours(int i) {
        if (i == NONE) {
            return house.hourCount;
        }
        return i >= 0 && i < house.hourCount ? house.hours[i] : NONE;
    }

    public long best(int first, int second, int lead) {
        int refusal = bestRefusal(first, second, lead);
        if (refusal != 0) {
            return refusal;
        }
        bestTwo.seek(first, second, lead, edits);
        return bestTwo.least;
    }

    public int bestAt(int first, int second, int lead, int what) {
        if (what < 0 || what > 3) {
            return NONE;
        }
        int refusal = bestRefusal(first, second, lead);
        if (refusal != 0) {
            return refusal;
        }
        if (what >= 2 && second == NONE) {
            return NONE;
        }
        bestTwo.seek(first, second, lead, edits);
        return bestTwo.found(what);
    }

    public int fewest(int clock) {
        return isClock(clock) ? cover.fewestRings(clock) : NONE;
    }

    public int deaf(int clock) {
        return isClock(clock) ? cover.deafOnes(clock) : NONE;
    }

    public int walk(int sleeper, int other) {
        if (!isSleeper(sleeper) || !isSleeper(other)) {
            return NONE;
        }
        return house.walking(now.bedOf[sleeper], now.bedOf[other]);
    }

    public int shakes(int c, int what) {
        if (c < 1 || c > 2 || what < 0 || what > 1) {
            return NONE;
        }
        shaking.match(c);
        return what == 0 ? shaking.shaken : shaking.walks;
    }

    public int shaker(int c, int sleeper) {
        if (c < 1 || c > 2 || !isSleeper(sleeper)) {
            return NONE;
        }
        shaking.match(c);
        return shaking.shakerOf[sleeper];
    }

    public long twice(int sleeper, int loud, int k, int w) {
        return mayRingTwice(sleeper, loud, k, w) ? night.ringOften(sleeper, loud, k, w) : -1;
    }

    public int twiceAt(int sleeper, int loud, int k, int w, int i) {
        if (!mayRingTwice(sleeper, loud, k, w) || i < 0 || i >= k) {
            return NONE;
        }
        night.ringOften(sleeper, loud, k, w);
        return night.chosen[i];
    }

    public int swaps(int l) {
        return isLimit(l) ? changes.fewestChanges(l) : NONE;
    }

    public int swapAt(int l, int i) {
        if (!isLimit(l)) {
            return NONE;
        }
        int needed = changes.fewestChanges(l);
        return i >= 0 && i < needed ? changes.found[i] : NONE;
    }

    public long worth(int sleeper) {
        if (!isSleeper(sleeper)) {
            return NO_WORTH;
        }
        night.arrange(NONE);
        return night.worthOfWool(sleeper);
    }

    public int whose(int w) {
        return w >= 0 && w <= MOST_SLEEPERS ? night.worthiest(w) : NONE;
    }

    public int round(int e) {
        return isEarly(e) ? rounds.walkRound(e) : NONE;
    }

    public int roundAt(int e, int i) {
        if (!isEarly(e) || i < 0 || i >= house.eightCount || rounds.walkRound(e) == NEVER) {
            return NONE;
        }
        return rounds.order[i];
    }

    public int morning(int sleeper, int weekday, int minute) {
        if (!isSleeper(sleeper) || weekday < 0 || weekday > 6 || minute < 0 || minute > MINUTES) {
            return NONE;
        }
        return now.note(sleeper, weekday, minute);
    }

    public int annul(int morning) {
        if (morning < 0 || morning >= now.row || now.who[morning] == State.VOID) {
            return NONE;
        }
        return now.note(State.VOID, 0, morning);
    }

    public int alone(int sleeper, int weekday, int n, int what) {
        if (!isSleeper(sleeper) || weekday < 0 || weekday > 7 || !isKnown(n) || what < 0 || what > 1) {
            return NONE;
        }
        return now.countAlone(house, sleeper, weekday, n, what == 1);
    }

    public int mondays(int n, int what) {
        if (!isKnown(n) || what < 0 || what > 3) {
            return NONE;
        }
        now.tallyMondays(house, n);
        return now.tally[what];
    }

    public long mondayWays(int n, boolean more) {
        if (!isKnown(n)) {
            return -1;
        }
        now.tallyMondays(house, n);
        return more ? now.waysOfSoMany() : choose(now.tally[0], now.tally[1]);
    }

    public int fire(int sleeper, int loud, boolean maybe) {
        if (!isSleeper(sleeper) || !isLoud(loud)) {
            return NONE;
        }
        int all = (1 << house.sleepers) - 1;
        int awake = 1 << sleeper;
        for (int minute = 0; minute <= MOST_SLEEPERS; minute++) {
            if (awake == all) {
                return minute;
            }
            awake = aMinuteLater(awake, loud, maybe);
        }
        return NEVER;
    }

    public int reaches(int sleeper, int loud, boolean maybe) {
        if (!isSleeper(sleeper) || !isLoud(loud)) {
            return NONE;
        }
        int awake = 1 << sleeper;
        for (int minute = 0; minute < MOST_SLEEPERS; minute++) {
            int later = aMinuteLater(awake, loud, maybe);
            if (later == awake) {
                break;
            }
            awake = later;
        }
        return awake;
    }

    public int day(int seed, int d) {
        if (d < 0 || d > 999) {
            return NONE;
        }
        int up = 0;
        night.arrange(NONE);
        for (int i = 0; i < house.sleepers; i++) {
            if (house.hour[i] != NOBODY) {
                night.listen(i);
                up |= night.upByLots(seed, d, i) ? 1 << i : 0;
            }
        }
        return up;
    }

    public int days(int seed, int k, int sleeper) {
        if (k < 1 || k > 50) {
            return NEVER;
        }
        if (sleeper == NONE) {
            return night.daysAllUp(seed, k);
        }
        if (!isSleeper(sleeper) || house.hour[sleeper] == NOBODY) {
            return NEVER;
        }
        night.arrange(NONE);
        night.listen(sleeper);
        int up = 0;
        for (int d = 0; d < k; d++) {
            up += night.upByLots(seed, d, sleeper) ? 1 : 0;
        }
        return up;
    }

    public boolean hold(int slot) {
        if (!isSlot(slot)) {
            return false;
        }
        slots[slot].takeFrom(now);
        slots[slot].holds = true;
        return true;
    }

    public boolean restore(int slot) {
        if (!isSlot(slot) || !slots[slot].holds) {
            return false;
        }
        edits++;
        now.takeFrom(slots[slot]);
        return true;
    }

    public int count(int what) {
        switch (what) {
            case 0: return house.beds;
            case 1: return house.clocks;
            case 2: return house.sleepers;
            case 3: return now.sounds;
            case 4: return now.row;
            case 5: return Integer.bitCount(now.wool);
            case 6: return tape.length;
            case 7: return (slots[0].holds ? 1 : 0) + (slots[1].holds ? 1 : 0);
            default: return NONE;
        }
    }

    private boolean isSleeper(int sleeper) {
        return sleeper >= 0 && sleeper < house.sleepers;
    }

    private boolean isBed(int bed) {
        return bed >= 0 && bed < house.beds;
    }

    private boolean isClock(int clock) {
        return clock >= 0 && clock < house.clocks;
    }

    private boolean isSound(int sound) {
        return sound >= 0 && sound < now.sounds;
    }

    private boolean isKnown(int n) {
        return n >= 0 && n <= now.row;
    }

    private static boolean isMinute(int minute) {
        return minute >= 0 && minute < MINUTES;
    }

    private static boolean isLoud(int loud) {
        return loud >= 1 && loud <= LOUDEST;
    }

    private static boolean isLimit(int l) {
        return l >= 0 && l <= 99;
    }

    private static boolean isEarly(int e) {
        return e >= 0 && e <= 60;
    }

    private static boolean isSlot(int slot) {
        return slot >= 0 && slot < SLOTS;
    }

    private int plan(int kind, int minute, int loud, int where) {
        edits++;
        return now.putBehind(kind, minute, loud, where);
    }

    private int bestRefusal(int first, int second, int lead) {
        if (!isClock(first) || second != NONE && !isClock(second) || first == second || lead < 0 || lead > 60) {
            return -1;
        }
        int sounds = now.sounds + (second == NONE ? 1 : 2);
        return house.hourCount == 0 || house.beds == 0 || sounds > MOST_SOUNDS ? -2 : 0;
    }

    private boolean mayRingTwice(int sleeper, int loud, int k, int w) {
        if (!isSleeper(sleeper) || !isLoud(loud) || k < 1 || k > 3 || w < 0 || w > 30) {
            return false;
        }
        return house.hour[sleeper] != NOBODY && house.hour[sleeper] - w >= 0 && w + 1 >= k;
    }

    private int aMinuteLater(int awake, int loud, boolean maybe) {
        int enough = maybe ? 1 : SURELY;
        int later = awake;
        for (int i = 0; i < house.sleepers; i++) {
            for (int crier = 0; crier < house.sleepers && (later >> i & 1) == 0; crier++) {
                if ((awake >> crier & 1) == 1 && cryHeard(i, crier, loud) >= enough) {
                    later |= 1 << i;
                }
            }
        }
        return later;
    }

    private int cryHeard(int sleeper, int crier, int loud) {
        return house.hearing(sleeper, now.bedOf[sleeper], now.woolOf(sleeper), loud, now.bedOf[crier], 0);
    }

    private static long choose(int n, int k) {
        if (k < 0 || k > n) {
            return 0;
        }
        long ways = 1;
        int few = Math.min(k, n - k);
        for (int i = 1; i <= few; i++) {
            ways = ways * (n - few + i) / i;
        }
        return ways;
    }

    private static int held(int value, int least, int most) {
        return Math.max(least, Math.min(most, value));
    }

    /** The bytes that were fed, and the TOKENS that they make. */
    private static final class Tape {
        static final int MOST_BYTES = 2000;
        static final int MOST_TOKENS = 400;
        static final int LONGEST_NAME = 8;
        static final int LONGEST_INT = 4;
        // The seven words that may stand in a law come first: their kinds are their numbers there.
        static final String WORDS =
            "loud gap floors hour deep wool after bed clock fast slow sleeper in up late vain hears again ";
        static final int LOUD = 0;
        static final int GAP = 1;
        static final int FLOORS = 2;
        static final int HOUR = 3;
        static final int DEEP = 4;
        static final int WOOL = 5;
        static final int AFTER = 6;
        static final int BED = 7;
        static final int CLOCK = 8;
        static final int FAST = 9;
        static final int SLOW = 10;
        static final int SLEEPER = 11;
        static final int IN = 12;
        static final int UP = 13;
        static final int LATE = 14;
        static final int VAIN = 15;
        static final int HEARS = 16;
        static final int AGAIN = 17;
        static final int WORD_COUNT = 18;
        static final int NAME = 18;
        static final int INT = 19;
        static final String SIGNS = ";+-*/<()[]";
        static final int SEMICOLON = 20;
        static final int PLUS = 21;
        static final int MINUS = 22;
        static final int TIMES = 23;
        static final int DIVIDE = 24;
        static final int LESS = 25;
        static final int OPEN = 26;
        static final int CLOSE = 27;
        static final int OPEN_TEST = 28;
        static final int CLOSE_TEST = 29;
        static final int EQUAL = 30;
        static final int END = 31;
        static final int NO_TOKEN = 32;

        final byte[] bytes = new byte[MOST_BYTES];
        final long[] words = new long[WORD_COUNT];
        // One TOKEN too many is kept, for the fault that it is; behind all of them stands the end.
        final int[] kinds = new int[MOST_TOKENS + 2];
        final int[] places = new int[MOST_TOKENS + 2];
        final long[] values = new long[MOST_TOKENS + 2];
        int length;
        int next;
        int tokens;

        Tape() {
            int word = 0;
            long code = 0;
            for (int i = 0; i < WORDS.length() && word < WORD_COUNT; i++) {
                if (WORDS.charAt(i) == ' ') {
                    words[word] = code;
                    word++;
                    code = 0;
                } else {
                    code = spelled(code, WORDS.charAt(i));
                }
            }
        }

        boolean hasRoom(int more) {
            return length + more <= MOST_BYTES;
        }

        void putFour(int four) {
            for (int shift = 24; shift >= 0 && length < MOST_BYTES; shift -= 8) {
                bytes[length] = (byte) (four >> shift);
                length++;
            }
        }

        void split() {
            tokens = 0;
            next = 0;
            boolean more = true;
            for (int i = 0; i <= MOST_TOKENS && more; i++) {
                more = scan();
            }
            if (more) {
                put(END, length, 0);
            }
        }

        // A name is at most 8 letters long, so its letters make one number that no other name has.
        private static long spelled(long code, int letter) {
            return code * 27 + (letter - 'a' + 1);
        }

        private void put(int kind, int at, long value) {
            if (tokens < kinds.length) {
                kinds[tokens] = kind;
                places[tokens] = at;
                values[tokens] = value;
                tokens++;
            }
        }

        private boolean scan() {
            while (next < length && isBlank(bytes[next])) {
                next++;
            }
            if (next >= length) {
                put(END, length, 0);
                return false;
            }
            int first = bytes[next];
            if (isLetter(first)) {
                return scanLetters();
            }
            return isDigit(first) ? scanDigits() : scanSign(first);
        }

        private boolean scanLetters() {
            int at = next;
            long code = 0;
            while (next < length && isLetter(bytes[next])) {
                code = next - at < LONGEST_NAME ? spelled(code, bytes[next]) : code;
                next++;
            }
            if (next - at > LONGEST_NAME) {
                put(NO_TOKEN, at, 0);
                return false;
            }
            int kind = NAME;
            for (int word = 0; word < WORD_COUNT && kind == NAME; word++) {
                kind = words[word] == code ? word : NAME;
            }
            put(kind, at, code);
            return true;
        }

        private boolean scanDigits() {
            int at = next;
            int value = 0;
            while (next < length && isDigit(bytes[next])) {
                value = next - at < LONGEST_INT ? value * 10 + (bytes[next] - '0') : value;
                next++;
            }
            boolean fits = next - at <= LONGEST_INT;
            put(fits ? INT : NO_TOKEN, at, value);
            return fits;
        }

        private boolean scanSign(int first) {
            int at = next;
            int kind = NO_TOKEN;
            if (first == '=') {
                kind = at + 1 < length && bytes[at + 1] == '=' ? EQUAL : NO_TOKEN;
            } else if (first > 0) {
                int sign = SIGNS.indexOf((char) first);
                kind = sign >= 0 ? SEMICOLON + sign : NO_TOKEN;
            }
            put(kind, at, 0);
            next += kind == EQUAL ? 2 : 1;
            return kind != NO_TOKEN;
        }

        private static boolean isBlank(int sign) {
            return sign == 9 || sign == 10 || sign == 13 || sign == 32;
        }

        private static boolean isLetter(int sign) {
            return sign >= 'a' && sign <= 'z';
        }

        private static boolean isDigit(int sign) {
            return sign >= '0' && sign <= '9';
        }
    }

    /** Reads the TOKENS into a draft of a house; says the first FAULT. */
    private static final class Reader {
        static final int SYNTAX = 1;
        static final int ROOM = 2;
        static final int TWICE = 3;
        static final int UNTOLD = 4;
        static final int WRONG = 5;
        static final int DEEPEST = 6;

        final Tape tape;
        final House draft = new House();
        final long[] names = new long[MOST_BEDS + MOST_CLOCKS + MOST_SLEEPERS];
        final int[] bedNamed = new int[MOST_BEDS + MOST_CLOCKS + MOST_SLEEPERS];
        int nameCount;
        int bedsTaken;
        // In a law: the signs whose right sides are still to come, and how many of them are open.
        final int[] signs = new int[Tape.MOST_TOKENS];
        int waiting;
        int depth;
        int now;
        int value;
        int fault;
        int faultAt = NONE;
        // TWICE, NAME and WRONG count only where no SYNTAX and no ROOM is at fault anywhere.
        int sense;
        int senseAt;

        Reader(Tape tape) {
            this.tape = tape;
        }

        int readText() {
            tape.split();
            draft.clear();
            nameCount = 0;
            bedsTaken = 0;
            now = 0;
            fault = 0;
            faultAt = NONE;
            sense = 0;
            senseAt = NONE;
            boolean good = true;
            for (int tells = 0; tells <= Tape.MOST_TOKENS && good && kind() != Tape.END; tells++) {
                good = tell();
            }
            if (good && sense != 0) {
                fault = sense;
                faultAt = senseAt;
            }
            tape.length = 0;
            return fault;
        }

        // The end, or what is no TOKEN, is never gone past: there is always one at hand.
        private int kind() {
            return tape.kinds[now];
        }

        private boolean fail(int number) {
            fault = number;
            faultAt = tape.places[now];
            return false;
        }

        private void doubt(int number) {
            if (sense == 0) {
                sense = number;
                senseAt = tape.places[now];
            }
        }

        private boolean goOn() {
            if (now >= Tape.MOST_TOKENS) {
                return fail(ROOM);
            }
            now++;
            return true;
        }

        private boolean take(int kind) {
            return kind() == kind ? goOn() : fail(SYNTAX);
        }

        private boolean tell() {
            switch (kind()) {
                case Tape.BED: return tellBed();
                case Tape.CLOCK: return tellClock();
                case Tape.SLEEPER: return tellSleeper();
                case Tape.HEARS: return tellLaw(draft.hearingLaw);
                case Tape.AGAIN: return tellLaw(draft.againLaw);
                default: return fail(SYNTAX);
            }
        }

        private boolean tellBed() {
            int bed = draft.beds;
            if (bed >= MOST_BEDS) {
                return fail(ROOM);
            }
            if (!goOn() || !takeNewName(bed) || !takeInt(0, 3)) {
                return false;
            }
            draft.floor[bed] = value;
            if (!takeInt(0, 9)) {
                return false;
            }
            draft.spot[bed] = value;
            draft.beds++;
            return take(Tape.SEMICOLON);
        }

        private boolean tellClock() {
            int clock = draft.clocks;
            if (clock >= MOST_CLOCKS) {
                return fail(ROOM);
            }
            if (!goOn() || !takeNewName(NONE) || !takeInt(1, LOUDEST)) {
                return false;
            }
            draft.loud[clock] = value;
            draft.shift[clock] = 0;
            int way = kind();
            if (way == Tape.FAST || way == Tape.SLOW) {
                if (!goOn() || !takeInt(0, 30)) {
                    return false;
                }
                draft.shift[clock] = way == Tape.FAST ? -value : value;
            }
            draft.clocks++;
            return take(Tape.SEMICOLON);
        }

        private boolean tellSleeper() {
            int sleeper = draft.sleepers;
            if (sleeper >= MOST_SLEEPERS) {
                return fail(ROOM);
            }
            if (!goOn() || !takeNewName(NONE) || !take(Tape.IN) || !takeBedName()) {
                return false;
            }
            draft.firstBed[sleeper] = value;
            if (!take(Tape.DEEP) || !takeInt(0, 9)) {
                return false;
            }
            draft.deep[sleeper] = value;
            draft.hour[sleeper] = NOBODY;
            draft.late[sleeper] = 0;
            draft.vain[sleeper] = 0;
            if (!takeDuty(sleeper)) {
                return false;
            }
            draft.sleepers++;
            return take(Tape.SEMICOLON);
        }

        private boolean takeDuty(int sleeper) {
            if (kind() == Tape.UP) {
                if (!goOn() || !takeInt(0, MINUTES - 1)) {
                    return false;
                }
                draft.hour[sleeper] = value;
                if (!take(Tape.LATE) || !takeInt(0, 9)) {
                    return false;
                }
                draft.late[sleeper] = value;
            } else if (kind() == Tape.VAIN) {
                if (!goOn() || !takeInt(0, 9)) {
                    return false;
                }
                draft.vain[sleeper] = value;
            }
            return true;
        }

        private boolean takeInt(int least, int most) {
            if (kind() != Tape.INT) {
                return fail(SYNTAX);
            }
            value = (int) tape.values[now];
            if (value < least || value > most) {
                doubt(WRONG);
            }
            return goOn();
        }

        private boolean takeNewName(int bed) {
            if (kind() != Tape.NAME) {
                return fail(SYNTAX);
            }
            long name = tape.values[now];
            if (numberOf(name) != NONE) {
                doubt(TWICE);
            } else if (nameCount < names.length) {
                names[nameCount] = name;
                bedNamed[nameCount] = bed;
                nameCount++;
            }
            return goOn();
        }

        private boolean takeBedName() {
            if (kind() != Tape.NAME) {
                return fail(SYNTAX);
            }
            int told = numberOf(tape.values[now]);
            value = told == NONE ? NONE : bedNamed[told];
            if (value == NONE) {
                doubt(UNTOLD);
            } else if ((bedsTaken >> value & 1) == 1) {
                doubt(TWICE);
            } else {
                bedsTaken |= 1 << value;
            }
            return goOn();
        }

        private int numberOf(long name) {
            for (int i = 0; i < nameCount; i++) {
                if (names[i] == name) {
                    return i;
                }
            }
            return NONE;
        }

        private boolean tellLaw(Law law) {
            law.length = 0;
            waiting = 0;
            depth = 0;
            boolean unitNext = true;
            boolean good = goOn();
            for (int i = 0; i <= Tape.MOST_TOKENS && good; i++) {
                int kind = kind();
                if (unitNext) {
                    unitNext = kind == Tape.OPEN || kind == Tape.OPEN_TEST;
                    good = unitNext ? open(kind) : putUnit(law, kind);
                } else {
                    unitNext = kind >= Tape.PLUS && kind <= Tape.LESS || kind == Tape.EQUAL;
                    good = unitNext ? putSign(law, kind) : close(law, kind);
                }
                good = good && goOn();
                if (kind == Tape.SEMICOLON) {
                    break;
                }
            }
            return good;
        }

        private boolean putUnit(Law law, int kind) {
            if (kind == Tape.INT) {
                law.put((int) tape.values[now]);
                return true;
            }
            if (kind > Tape.AFTER) {
                return fail(SYNTAX);
            }
            law.put(-1 - kind);
            return true;
        }

        private boolean open(int kind) {
            if (depth >= DEEPEST) {
                return fail(ROOM);
            }
            depth++;
            pushSign(kind);
            return true;
        }

        // A sign waits for its right side, and lets those go first that bind no less.
        private boolean putSign(Law law, int kind) {
            boolean isPart = kind == Tape.TIMES || kind == Tape.DIVIDE;
            boolean isTest = kind == Tape.LESS || kind == Tape.EQUAL;
            putWaiting(law, isPart);
            if (isTest && !closes(Tape.OPEN_TEST)) {
                return fail(SYNTAX);
            }
            pushSign(kind);
            return true;
        }

        // Of a test its < or == waits in place of its [ .
        private boolean close(Law law, int kind) {
            putWaiting(law, false);
            if (kind == Tape.SEMICOLON && waiting == 0) {
                return true;
            }
            if (kind == Tape.CLOSE && closes(Tape.OPEN)) {
                depth--;
                return true;
            }
            if (kind != Tape.CLOSE_TEST) {
                return fail(SYNTAX);
            }
            int test = closes(Tape.LESS) ? Tape.LESS : Tape.EQUAL;
            if (test == Tape.EQUAL && !closes(Tape.EQUAL)) {
                return fail(SYNTAX);
            }
            law.put(-test);
            depth--;
            return true;
        }

        private void pushSign(int kind) {
            if (waiting < signs.length) {
                signs[waiting] = kind;
                waiting++;
            }
        }

        private boolean closes(int kind) {
            boolean fits = waiting > 0 && signs[waiting - 1] == kind;
            waiting -= fits ? 1 : 0;
            return fits;
        }

        private void putWaiting(Law law, boolean partsOnly) {
            int least = partsOnly ? Tape.TIMES : Tape.PLUS;
            while (waiting > 0 && signs[waiting - 1] >= least && signs[waiting - 1] <= Tape.DIVIDE) {
                waiting--;
                law.put(-signs[waiting]);
            }
        }
    }

    /** A law: INTS as they are, words of the seven as -1 - word, signs as -sign, each behind its two sides. */
    private static final class Law {
        static final int MOST_STEPS = Tape.MOST_TOKENS;
        static final int WORDS = 7;

        final int[] steps = new int[MOST_STEPS];
        final int[] stack = new int[MOST_STEPS];
        int length;

        void put(int step) {
            if (length < MOST_STEPS) {
                steps[length] = step;
                length++;
            }
        }

        void takeFrom(Law other) {
            length = other.length;
            System.arraycopy(other.steps, 0, steps, 0, length);
        }

        int value(int[] words) {
            int high = 0;
            for (int i = 0; i < length; i++) {
                int step = steps[i];
                if (step >= -WORDS) {
                    stack[high] = step >= 0 ? step : words[-1 - step];
                    high++;
                    continue;
                }
                if (high < 2) {
                    return 0;
                }
                high--;
                int right = stack[high];
                int left = stack[high - 1];
                switch (-step) {
                    case Tape.PLUS: left += right; break;
                    case Tape.MINUS: left -= right; break;
                    case Tape.TIMES: left *= right; break;
                    case Tape.LESS: left = left < right ? 1 : 0; break;
                    case Tape.EQUAL: left = left == right ? 1 : 0; break;
                    default:
                        // Whatever holds this division is an E that divides by 0, the whole law too.
                        if (right == 0) {
                            return 0;
                        }
                        left /= right;
                }
                stack[high - 1] = left;
            }
            return high > 0 ? stack[0] : 0;
        }
    }

    /** What a text tells: it stays as it is until the next text. */
    private static final class House {
        final int[] floor = new int[MOST_BEDS];
        final int[] spot = new int[MOST_BEDS];
        final int[] loud = new int[MOST_CLOCKS];
        // How many minutes later than it is set to a clock sounds.
        final int[] shift = new int[MOST_CLOCKS];
        final int[] firstBed = new int[MOST_SLEEPERS];
        final int[] deep = new int[MOST_SLEEPERS];
        final int[] hour = new int[MOST_SLEEPERS];
        final int[] late = new int[MOST_SLEEPERS];
        final int[] vain = new int[MOST_SLEEPERS];
        final int[] hours = new int[MOST_SLEEPERS];
        final int[] eight = new int[EIGHT];
        // For HEARING: AFTER stays 0.
        final int[] words = new int[Law.WORDS];
        final Law hearingLaw = new Law();
        final Law againLaw = new Law();
        int beds;
        int clocks;
        int sleepers;
        int hourCount;
        int eightCount;

        void clear() {
            beds = 0;
            clocks = 0;
            sleepers = 0;
            hourCount = 0;
            eightCount = 0;
            putUsualHearing();
            againLaw.length = 0;
            againLaw.put(0);
        }

        // loud - gap - floors * 3 - wool * 4
        private void putUsualHearing() {
            hearingLaw.length = 0;
            hearingLaw.put(-1 - Tape.LOUD);
            hearingLaw.put(-1 - Tape.GAP);
            hearingLaw.put(-Tape.MINUS);
            hearingLaw.put(-1 - Tape.FLOORS);
            hearingLaw.put(3);
            hearingLaw.put(-Tape.TIMES);
            hearingLaw.put(-Tape.MINUS);
            hearingLaw.put(-1 - Tape.WOOL);
            hearingLaw.put(4);
            hearingLaw.put(-Tape.TIMES);
            hearingLaw.put(-Tape.MINUS);
        }

        void takeFrom(House other) {
            beds = other.beds;
            clocks = other.clocks;
            sleepers = other.sleepers;
            System.arraycopy(other.floor, 0, floor, 0, beds);
            System.arraycopy(other.spot, 0, spot, 0, beds);
            System.arraycopy(other.loud, 0, loud, 0, clocks);
            System.arraycopy(other.shift, 0, shift, 0, clocks);
            System.arraycopy(other.firstBed, 0, firstBed, 0, sleepers);
            System.arraycopy(other.deep, 0, deep, 0, sleepers);
            System.arraycopy(other.hour, 0, hour, 0, sleepers);
            System.arraycopy(other.late, 0, late, 0, sleepers);
            System.arraycopy(other.vain, 0, vain, 0, sleepers);
            hearingLaw.takeFrom(other.hearingLaw);
            againLaw.takeFrom(other.againLaw);
            listHours();
            listEight();
        }

        private void listHours() {
            hourCount = 0;
            for (int i = 0; i < sleepers; i++) {
                if (hour[i] != NOBODY) {
                    listHour(hour[i]);
                }
            }
        }

        private void listHour(int minute) {
            int at = 0;
            while (at < hourCount && hours[at] < minute) {
                at++;
            }
            boolean isNew = at == hourCount || hours[at] != minute;
            if (isNew && hourCount < hours.length) {
                for (int i = hourCount; i > at; i--) {
                    hours[i] = hours[i - 1];
                }
                hours[at] = minute;
                hourCount++;
            }
        }

        private void listEight() {
            eightCount = 0;
            for (int i = 0; i < sleepers && eightCount < EIGHT; i++) {
                if (hour[i] != NOBODY) {
                    eight[eightCount] = i;
                    eightCount++;
                }
            }
        }

        int soundsAt(int clock, int minute) {
            return held(minute + shift[clock], 0, MINUTES - 1);
        }

        int apart(int bed, int other) {
            return Math.abs(spot[bed] - spot[other]);
        }

        int walking(int bed, int other) {
            return 1 + apart(bed, other) + 3 * Math.abs(floor[bed] - floor[other]);
        }

        int hearing(int sleeper, int lying, int wool, int loud, int bed, int minute) {
            words[Tape.LOUD] = loud;
            words[Tape.GAP] = apart(lying, bed);
            words[Tape.FLOORS] = Math.abs(floor[lying] - floor[bed]);
            words[Tape.HOUR] = minute / 60;
            words[Tape.DEEP] = deep[sleeper];
            words[Tape.WOOL] = wool;
            return held(hearingLaw.value(words), 0, SURELY);
        }
    }

    /** What may be held in a slot: the PLAN, WOOL, BEDS and MORNINGS. */
    private static final class State {
        static final int VOID = -1;

        final int[] kind = new int[MOST_SOUNDS];
        final int[] minute = new int[MOST_SOUNDS];
        final int[] loud = new int[MOST_SOUNDS];
        // The BED of a RING or a POLE, the SLEEPER of a STRING.
        final int[] where = new int[MOST_SOUNDS];
        final int[] bedOf = new int[MOST_SLEEPERS];
        final int[] sleeperIn = new int[MOST_BEDS];
        final int[] who = new int[MOST_IN_ROW];
        final int[] weekday = new int[MOST_IN_ROW];
        // The MINUTE of a MORNING, the number that a VOID names.
        final int[] woke = new int[MOST_IN_ROW];
        final int[] tally = new int[4];
        int sounds;
        int wool;
        int row;
        boolean holds;

        void begin(House house) {
            sounds = 0;
            wool = 0;
            row = 0;
            Arrays.fill(sleeperIn, NOBODY);
            for (int i = 0; i < house.sleepers; i++) {
                bedOf[i] = house.firstBed[i];
                sleeperIn[bedOf[i]] = i;
            }
        }

        void takeFrom(State other) {
            sounds = other.sounds;
            wool = other.wool;
            row = other.row;
            System.arraycopy(other.kind, 0, kind, 0, sounds);
            System.arraycopy(other.minute, 0, minute, 0, sounds);
            System.arraycopy(other.loud, 0, loud, 0, sounds);
            System.arraycopy(other.where, 0, where, 0, sounds);
            System.arraycopy(other.bedOf, 0, bedOf, 0, MOST_SLEEPERS);
            System.arraycopy(other.sleeperIn, 0, sleeperIn, 0, MOST_BEDS);
            System.arraycopy(other.who, 0, who, 0, row);
            System.arraycopy(other.weekday, 0, weekday, 0, row);
            System.arraycopy(other.woke, 0, woke, 0, row);
        }

        int woolOf(int sleeper) {
            return wool >> sleeper & 1;
        }

        int bedOfSound(int sound) {
            return kind[sound] == STRING ? bedOf[where[sound]] : where[sound];
        }

        int putBehind(int newKind, int newMinute, int newLoud, int newWhere) {
            if (sounds >= MOST_SOUNDS) {
                return NONE;
            }
            kind[sounds] = newKind;
            minute[sounds] = newMinute;
            loud[sounds] = newLoud;
            where[sounds] = newWhere;
            sounds++;
            return sounds - 1;
        }

        void takeOut(int sound) {
            sounds--;
            for (int i = sound; i < sounds; i++) {
                kind[i] = kind[i + 1];
                minute[i] = minute[i + 1];
                loud[i] = loud[i + 1];
                where[i] = where[i + 1];
            }
        }

        void change(int bed, int other) {
            int one = sleeperIn[bed];
            int two = sleeperIn[other];
            sleeperIn[bed] = two;
            sleeperIn[other] = one;
            if (one != NOBODY) {
                bedOf[one] = other;
            }
            if (two != NOBODY) {
                bedOf[two] = bed;
            }
        }

        int note(int sleeper, int day, int at) {
            if (row >= MOST_IN_ROW) {
                return NONE;
            }
            who[row] = sleeper;
            weekday[row] = day;
            woke[row] = at;
            row++;
            return row - 1;
        }

        private boolean known(int i, int n) {
            if (who[i] == VOID) {
                return false;
            }
            for (int later = i + 1; later < n; later++) {
                if (who[later] == VOID && woke[later] == i) {
                    return false;
                }
            }
            return true;
        }

        private boolean inTime(House house, int i) {
            int hour = house.hour[who[i]];
            return hour == NOBODY ? woke[i] < MINUTES : woke[i] <= hour;
        }

        int countAlone(House house, int sleeper, int day, int n, boolean timelyOnly) {
            int found = 0;
            for (int i = 0; i < n; i++) {
                boolean his = who[i] == sleeper && (day == 7 || weekday[i] == day) && known(i, n);
                if (his && (!timelyOnly || inTime(house, i))) {
                    found++;
                }
            }
            return found;
        }

        void tallyMondays(House house, int n) {
            Arrays.fill(tally, 0);
            for (int i = 0; i < n; i++) {
                if (known(i, n)) {
                    int monday = weekday[i] == 0 ? 1 : 0;
                    int tardy = inTime(house, i) ? 0 : 1;
                    tally[0]++;
                    tally[1] += monday;
                    tally[2] += tardy;
                    tally[3] += monday * tardy;
                }
            }
        }

        long waysOfSoMany() {
            long ways = 0;
            for (int taken = tally[3]; taken <= tally[1]; taken++) {
                ways += choose(tally[2], taken) * choose(tally[0] - tally[2], tally[1] - taken);
            }
            return ways;
        }
    }

    /** A SLEEPER's NIGHT: the SOUNDS in their order, what he hears of them, and the WAYS. */
    private static final class Night {
        static final int MOST_RINGS = 3;
        static final int WIDEST = 31;
        static final int MOST_CHOICES = 5000;
        static final int UNKNOWN = -1;

        final House house;
        final State state;
        final int[] minute = new int[MOST_SOUNDS];
        final int[] number = new int[MOST_SOUNDS];
        final int[] hear = new int[MOST_SOUNDS];
        // AGAIN depends on DEEP and the minutes alone, and is asked for over and over.
        final byte[] dozes = new byte[10 * MINUTES];
        // For AGAIN all words but two stay 0.
        final int[] words = new int[Law.WORDS];
        final int[] pick = new int[MOST_RINGS];
        final int[] chosen = new int[MOST_RINGS];
        final int[] hearAhead = new int[WIDEST];
        final long[] worths = new long[MOST_SLEEPERS];
        int count;

        Night(House house, State state) {
            this.house = house;
            this.state = state;
        }

        void forget() {
            Arrays.fill(dozes, (byte) UNKNOWN);
        }

        int asleepAgain(int sleeper, int after) {
            int cell = house.deep[sleeper] * MINUTES + after;
            if (dozes[cell] == UNKNOWN) {
                words[Tape.DEEP] = house.deep[sleeper];
                words[Tape.AFTER] = after;
                dozes[cell] = (byte) held(house.againLaw.value(words), 0, SURELY);
            }
            return dozes[cell];
        }

        void arrange(int without) {
            count = 0;
            for (int sound = 0; sound < state.sounds; sound++) {
                if (sound != without) {
                    insert(sound, state.minute[sound]);
                }
            }
        }

        int insert(int sound, int at) {
            if (count >= MOST_SOUNDS) {
                return NONE;
            }
            int i = count;
            while (i > 0 && minute[i - 1] > at) {
                minute[i] = minute[i - 1];
                number[i] = number[i - 1];
                i--;
            }
            minute[i] = at;
            number[i] = sound;
            count++;
            return i;
        }

        void listen(int sleeper) {
            listenFrom(sleeper, state.bedOf[sleeper], state.woolOf(sleeper));
        }

        void listenFrom(int sleeper, int lying, int wool) {
            for (int i = 0; i < count; i++) {
                hear[i] = heardOf(number[i], sleeper, lying, wool);
            }
        }

        int heardOf(int sound, int sleeper, int lying, int wool) {
            int where = state.where[sound];
            if (state.kind[sound] == STRING) {
                return where == sleeper ? SURELY : 0;
            }
            return house.hearing(sleeper, lying, wool, state.loud[sound], where, state.minute[sound]);
        }

        long upWays(int sleeper) {
            int hour = house.hour[sleeper];
            long awake = 0;
            long all = 1;
            int n = 0;
            while (n < count && minute[n] <= hour) {
                if (n > 0) {
                    awake *= 10 - asleepAgain(sleeper, minute[n] - minute[n - 1]);
                    all *= 10;
                }
                awake = awake * 10 + (all - awake) * hear[n];
                all *= 10;
                n++;
            }
            if (n == 0) {
                return 0;
            }
            awake *= 10 - asleepAgain(sleeper, hour - minute[n - 1]);
            return awake * HUNDREDS[count - n];
        }

        long wokenWays() {
            long deaf = 1;
            for (int i = 0; i < count; i++) {
                deaf *= 10 * (10 - hear[i]);
            }
            return HUNDREDS[count] - deaf;
        }

        long share(int sleeper) {
            if (house.hour[sleeper] == NOBODY) {
                return house.vain[sleeper] * wokenWays();
            }
            return house.late[sleeper] * (HUNDREDS[count] - upWays(sleeper));
        }

        long costWithout(int sound) {
            arrange(sound);
            long sum = 0;
            for (int i = 0; i < house.sleepers; i++) {
                listen(i);
                sum += share(i);
            }
            return sum;
        }

        long worthOfWool(int sleeper) {
            listenFrom(sleeper, state.bedOf[sleeper], 0);
            long without = share(sleeper);
            listenFrom(sleeper, state.bedOf[sleeper], 1);
            return without - share(sleeper);
        }

        int worthiest(int w) {
            arrange(NONE);
            for (int i = 0; i < house.sleepers; i++) {
                worths[i] = worthOfWool(i);
            }
            int bits = 0;
            for (int n = 0; n < w; n++) {
                int most = NONE;
                for (int i = 0; i < house.sleepers; i++) {
                    if (worths[i] > 0 && (most == NONE || worths[i] > worths[most])) {
                        most = i;
                    }
                }
                if (most == NONE) {
                    break;
                }
                bits |= 1 << most;
                worths[most] = 0;
            }
            return bits;
        }

        /** TWICE: its WAYS; the MINUTES are in chosen. */
        long ringOften(int sleeper, int loud, int k, int w) {
            int start = house.hour[sleeper] - w;
            int bed = state.bedOf[sleeper];
            for (int i = 0; i <= w; i++) {
                hearAhead[i] = house.hearing(sleeper, bed, state.woolOf(sleeper), loud, bed, start + i);
            }
            for (int i = 0; i < k; i++) {
                pick[i] = i;
            }
            count = k;
            long most = -1;
            boolean more = true;
            for (int n = 0; n < MOST_CHOICES && more; n++) {
                for (int i = 0; i < k; i++) {
                    minute[i] = start + pick[i];
                    hear[i] = hearAhead[pick[i]];
                }
                long up = upWays(sleeper);
                if (up > most) {
                    most = up;
                    System.arraycopy(minute, 0, chosen, 0, k);
                }
                more = pickNext(k, w);
            }
            return most;
        }

        private boolean pickNext(int k, int w) {
            for (int i = k - 1; i >= 0; i--) {
                if (pick[i] < w - (k - 1 - i)) {
                    pick[i]++;
                    for (int j = i + 1; j < k; j++) {
                        pick[j] = pick[j - 1] + 1;
                    }
                    return true;
                }
            }
            return false;
        }

        boolean upByLots(int seed, int d, int sleeper) {
            int hour = house.hour[sleeper];
            int which = 1000 * d + 40 * sleeper;
            boolean awake = false;
            int j = 0;
            while (j < count && minute[j] <= hour) {
                if (awake && j > 0) {
                    awake = lotOfTen(seed, which + 2 * j + 1) >= asleepAgain(sleeper, minute[j] - minute[j - 1]);
                }
                awake = awake || lotOfTen(seed, which + 2 * j) < hear[j];
                j++;
            }
            return awake && j > 0
                && lotOfTen(seed, which + 2 * j + 1) >= asleepAgain(sleeper, hour - minute[j - 1]);
        }

        int daysAllUp(int seed, int k) {
            long days = (1L << k) - 1;
            arrange(NONE);
            for (int i = 0; i < house.sleepers; i++) {
                if (house.hour[i] == NOBODY) {
                    continue;
                }
                listen(i);
                for (int d = 0; d < k; d++) {
                    if ((days >> d & 1) == 1 && !upByLots(seed, d, i)) {
                        days &= ~(1L << d);
                    }
                }
            }
            return Long.bitCount(days);
        }

        private static int lotOfTen(int seed, int which) {
            int h = stirred(stirred(seed, 14), which);
            return (h >>> 1) % 10;
        }

        private static int stirred(int h, int by) {
            int mixed = (h ^ by) * 1103515245 + 12345;
            return mixed ^ mixed >>> 15;
        }
    }

    /** BEST TWO. For given minutes a cost is linear in what is heard of each new RING: four nights tell all beds. */
    private static final class BestTwo {
        static final int FIRST = MOST_SOUNDS;
        static final int SECOND = MOST_SOUNDS + 1;
        static final int SIDE = 12;

        final House house;
        final State state;
        final Night night;
        final int[] hearFirst = new int[SIDE * SIDE * SIDE];
        final int[] hearSecond = new int[SIDE * SIDE * SIDE];
        final int[] hearPlan = new int[MOST_SLEEPERS * MOST_SOUNDS];
        final long[] byFirst = new long[MOST_SLEEPERS];
        final long[] bySecond = new long[MOST_SLEEPERS];
        final long[] byBoth = new long[MOST_SLEEPERS];
        final long[] slope = new long[MOST_SLEEPERS];
        long silent;
        long least;
        int leastKey;
        int first;
        int second;
        int lead;
        int editsThen = NONE;

        BestTwo(House house, State state, Night night) {
            this.house = house;
            this.state = state;
            this.night = night;
        }

        // bestAt asks four times for what best has found already; edits tell whether it still holds.
        void seek(int first, int second, int lead, int edits) {
            if (this.first == first && this.second == second && this.lead == lead && editsThen == edits) {
                return;
            }
            this.first = first;
            this.second = second;
            this.lead = lead;
            editsThen = edits;
            leastKey = NONE;
            hearAll();
            int seconds = second == NONE ? 1 : house.hourCount;
            for (int i = 0; i < house.hourCount; i++) {
                for (int j = 0; j < seconds; j++) {
                    weigh(i, j);
                    compareBeds(i, j);
                }
            }
        }

        int found(int what) {
            switch (what) {
                case 0: return leastKey / (SIDE * SIDE * SIDE);
                case 1: return setTo(leastKey / (SIDE * SIDE) % SIDE);
                case 2: return leastKey / SIDE % SIDE;
                default: return setTo(leastKey % SIDE);
            }
        }

        private int setTo(int i) {
            return i >= 0 && i < house.hourCount ? Math.max(0, house.hours[i] - lead) : NONE;
        }

        private static int cell(int i, int bed) {
            return (i * SIDE + bed) * SIDE;
        }

        private void hearAll() {
            hearClock(first, hearFirst);
            if (second != NONE) {
                hearClock(second, hearSecond);
            }
            for (int sleeper = 0; sleeper < house.sleepers; sleeper++) {
                int lying = state.bedOf[sleeper];
                for (int sound = 0; sound < state.sounds; sound++) {
                    hearPlan[sleeper * MOST_SOUNDS + sound] =
                        night.heardOf(sound, sleeper, lying, state.woolOf(sleeper));
                }
            }
        }

        private void hearClock(int clock, int[] table) {
            for (int i = 0; i < house.hourCount; i++) {
                int minute = house.soundsAt(clock, setTo(i));
                for (int bed = 0; bed < house.beds; bed++) {
                    for (int sleeper = 0; sleeper < house.sleepers; sleeper++) {
                        table[cell(i, bed) + sleeper] = house.hearing(sleeper, state.bedOf[sleeper],
                            state.woolOf(sleeper), house.loud[clock], bed, minute);
                    }
                }
            }
        }

        private void weigh(int i, int j) {
            night.arrange(NONE);
            if (night.count > MOST_SOUNDS - (second == NONE ? 1 : 2)) {
                return;
            }
            int one = night.insert(FIRST, house.soundsAt(first, setTo(i)));
            int two = NONE;
            if (second != NONE) {
                two = night.insert(SECOND, house.soundsAt(second, setTo(j)));
                one += two <= one ? 1 : 0;
            }
            silent = 0;
            for (int sleeper = 0; sleeper < house.sleepers; sleeper++) {
                for (int n = 0; n < night.count; n++) {
                    int sound = night.number[n];
                    night.hear[n] = sound < MOST_SOUNDS ? hearPlan[sleeper * MOST_SOUNDS + sound] : 0;
                }
                long none = night.share(sleeper);
                night.hear[one] = 1;
                long onlyFirst = night.share(sleeper);
                silent += none;
                byFirst[sleeper] = onlyFirst - none;
                if (two != NONE) {
                    night.hear[two] = 1;
                    long both = night.share(sleeper);
                    night.hear[one] = 0;
                    long onlySecond = night.share(sleeper);
                    bySecond[sleeper] = onlySecond - none;
                    byBoth[sleeper] = both - onlyFirst - onlySecond + none;
                }
            }
        }

        private void compareBeds(int i, int j) {
            for (int bed = 0; bed < house.beds; bed++) {
                int from = cell(i, bed);
                long byOne = silent;
                for (int sleeper = 0; sleeper < house.sleepers; sleeper++) {
                    int heard = hearFirst[from + sleeper];
                    byOne += byFirst[sleeper] * heard;
                    slope[sleeper] = bySecond[sleeper] + byBoth[sleeper] * heard;
                }
                int key = (bed * SIDE + i) * SIDE * SIDE;
                if (second == NONE) {
                    compare(byOne, key);
                } else {
                    compareSeconds(byOne, key, j);
                }
            }
        }

        private void compareSeconds(long byOne, int key, int j) {
            for (int bed = 0; bed < house.beds; bed++) {
                int from = cell(j, bed);
                long cost = byOne;
                for (int sleeper = 0; sleeper < house.sleepers; sleeper++) {
                    cost += slope[sleeper] * hearSecond[from + sleeper];
                }
                compare(cost, key + bed * SIDE + j);
            }
        }

        private void compare(long cost, int key) {
            if (leastKey == NONE || cost < least || cost == least && key < leastKey) {
                least = cost;
                leastKey = key;
            }
        }
    }

    /** FEWEST: which SLEEPERS each RING would surely wake, and how few RINGS do. */
    private static final class Cover {
        static final int SETS = 1 << MOST_SLEEPERS;
        static final int TOO_MANY = 100;

        final House house;
        final State state;
        final Night night;
        final int[] wakes = new int[MOST_SLEEPERS * MOST_BEDS];
        final int[] needed = new int[SETS];
        int rings;

        Cover(House house, State state, Night night) {
            this.house = house;
            this.state = state;
            this.night = night;
        }

        int deafOnes(int clock) {
            gather(clock);
            int deaf = bound();
            for (int i = 0; i < rings; i++) {
                deaf &= ~wakes[i];
            }
            return deaf;
        }

        int fewestRings(int clock) {
            if (deafOnes(clock) != 0) {
                return NEVER;
            }
            int all = bound();
            Arrays.fill(needed, TOO_MANY);
            needed[0] = 0;
            for (int done = 0; done < all; done++) {
                if (needed[done] < TOO_MANY) {
                    goOn(done, all);
                }
            }
            return needed[all];
        }

        // Some RING must wake the first one who is left, so only these need be tried.
        private void goOn(int done, int all) {
            int left = all & ~done;
            int first = left & -left;
            for (int i = 0; i < rings; i++) {
                if ((wakes[i] & first) != 0) {
                    int then = done | wakes[i];
                    needed[then] = Math.min(needed[then], needed[done] + 1);
                }
            }
        }

        private int bound() {
            int bits = 0;
            for (int i = 0; i < house.sleepers; i++) {
                bits |= house.hour[i] == NOBODY ? 0 : 1 << i;
            }
            return bits;
        }

        private void gather(int clock) {
            rings = 0;
            for (int bed = 0; bed < house.beds; bed++) {
                for (int i = 0; i < house.hourCount; i++) {
                    int minute = house.soundsAt(clock, house.hours[i]);
                    keep(wokenBy(house.loud[clock], bed, minute));
                }
            }
        }

        private int wokenBy(int loud, int bed, int minute) {
            int bits = 0;
            for (int i = 0; i < house.sleepers; i++) {
                int hour = house.hour[i];
                boolean inTime = hour != NOBODY && minute <= hour;
                if (inTime && night.asleepAgain(i, hour - minute) == 0
                    && house.hearing(i, state.bedOf[i], state.woolOf(i), loud, bed, minute) == SURELY) {
                    bits |= 1 << i;
                }
            }
            return bits;
        }

        private void keep(int bits) {
            for (int i = 0; i < rings; i++) {
                if ((bits & ~wakes[i]) == 0) {
                    return;
                }
            }
            if (bits != 0 && rings < wakes.length) {
                wakes[rings] = bits;
                rings++;
            }
        }
    }

    /** SHAKES: each of the eight gets a shaker or nobody, all of them together at the least price. */
    private static final class Shaking {
        static final int SIDES = 3 * EIGHT;
        // Prices are such that one more shaken outweighs all walks, and one walk all that comes first.
        static final long WALK = 43046721L;
        static final long SHAKEN = 153 * WALK;
        static final long CANNOT = 1000 * SHAKEN;
        static final long FAR = 9223372036854775807L;
        static final int[] NINES = {4782969, 531441, 59049, 6561, 729, 81, 9, 1};

        final House house;
        final State state;
        final int[] shakerOf = new int[MOST_SLEEPERS];
        final long[] price = new long[EIGHT * SIDES];
        final long[] rowPart = new long[EIGHT + 1];
        final long[] sidePart = new long[SIDES + 1];
        final long[] slack = new long[SIDES + 1];
        final int[] rowAt = new int[SIDES + 1];
        final int[] from = new int[SIDES + 1];
        int doneSides;
        int sides;
        int shaken;
        int walks;

        Shaking(House house, State state) {
            this.house = house;
            this.state = state;
        }

        void match(int c) {
            int n = house.eightCount;
            sides = n * c + n;
            setPrices(c);
            Arrays.fill(rowPart, 0);
            Arrays.fill(sidePart, 0);
            Arrays.fill(rowAt, 0);
            for (int row = 1; row <= n; row++) {
                seat(row);
            }
            tell(c);
        }

        private boolean canShake(int one, int other) {
            int a = house.eight[one];
            int b = house.eight[other];
            return one != other && house.hour[a] + walkOf(a, b) <= house.hour[b];
        }

        // Each shaker has c sides, one behind the other.
        private static int shakerAt(int side, int c) {
            return c == 2 ? side / 2 : side;
        }

        private int walkOf(int a, int b) {
            return house.walking(state.bedOf[a], state.bedOf[b]);
        }

        // The first n * c sides are shakers, c times each; behind them stands nobody, once for each row.
        private void setPrices(int c) {
            int n = house.eightCount;
            for (int row = 0; row < n; row++) {
                for (int side = 0; side < sides; side++) {
                    int one = shakerAt(side, c);
                    long value = (long) EIGHT * NINES[row];
                    if (one < n) {
                        value = !canShake(one, row) ? CANNOT : (long) one * NINES[row] - SHAKEN
                            + WALK * walkOf(house.eight[one], house.eight[row]);
                    }
                    price[row * SIDES + side] = value;
                }
            }
        }

        // The Hungarian method: a new row takes a side by the cheapest chain of moves.
        private void seat(int row) {
            rowAt[0] = row;
            Arrays.fill(slack, FAR);
            doneSides = 0;
            int side = 0;
            for (int step = 0; step <= sides && rowAt[side] != 0; step++) {
                doneSides |= 1 << side;
                side = nearest(side);
            }
            for (int step = 0; step <= sides && side != 0; step++) {
                rowAt[side] = rowAt[from[side]];
                side = from[side];
            }
        }

        private boolean isDone(int side) {
            return (doneSides >> side & 1) == 1;
        }

        private int nearest(int side) {
            int row = rowAt[side];
            int next = 0;
            for (int j = 1; j <= sides; j++) {
                if (isDone(j)) {
                    continue;
                }
                long over = price[(row - 1) * SIDES + j - 1] - rowPart[row] - sidePart[j];
                if (over < slack[j]) {
                    slack[j] = over;
                    from[j] = side;
                }
                if (next == 0 || slack[j] < slack[next]) {
                    next = j;
                }
            }
            long by = slack[next];
            for (int j = 0; j <= sides; j++) {
                if (isDone(j)) {
                    rowPart[rowAt[j]] += by;
                    sidePart[j] -= by;
                } else {
                    slack[j] -= by;
                }
            }
            return next;
        }

        private void tell(int c) {
            int n = house.eightCount;
            Arrays.fill(shakerOf, NOBODY);
            shaken = 0;
            walks = 0;
            for (int side = 1; side <= n * c; side++) {
                if (rowAt[side] != 0) {
                    int one = house.eight[shakerAt(side - 1, c)];
                    int other = house.eight[rowAt[side] - 1];
                    shakerOf[other] = one;
                    shaken++;
                    walks += walkOf(one, other);
                }
            }
        }
    }

    /** THE ROUND of the man with the pole. */
    private static final class Round {
        static final int SETS = 1 << EIGHT;
        static final int TOO_LATE = 100000;

        final House house;
        final State state;
        final int[] order = new int[EIGHT];
        final int[] spot = new int[EIGHT];
        // By who is done and who was the last: the soonest he can be there, the latest he may be.
        final int[] soonest = new int[SETS * EIGHT];
        final int[] latest = new int[SETS * EIGHT];
        int all;
        int early;

        Round(House house, State state) {
            this.house = house;
            this.state = state;
        }

        int walkRound(int e) {
            int n = house.eightCount;
            if (n == 0) {
                return 0;
            }
            early = e;
            all = (1 << n) - 1;
            for (int i = 0; i < n; i++) {
                spot[i] = house.spot[state.bedOf[house.eight[i]]];
            }
            goForward();
            int end = TOO_LATE;
            for (int i = 0; i < n; i++) {
                end = Math.min(end, soonest[all * EIGHT + i]);
            }
            if (end == TOO_LATE) {
                return NEVER;
            }
            goBackward(end);
            pickOrder();
            return end;
        }

        private int hourOf(int i) {
            return house.hour[house.eight[i]];
        }

        private int knock(int i, int arrival) {
            int at = Math.max(arrival, hourOf(i) - early);
            return at <= hourOf(i) ? at : TOO_LATE;
        }

        private void goForward() {
            int n = house.eightCount;
            Arrays.fill(soonest, TOO_LATE);
            for (int i = 0; i < n; i++) {
                soonest[(1 << i) * EIGHT + i] = knock(i, spot[i]);
            }
            for (int set = 1; set < all; set++) {
                for (int last = 0; last < n; last++) {
                    int at = soonest[set * EIGHT + last];
                    for (int i = 0; i < n && at < TOO_LATE; i++) {
                        if ((set >> i & 1) == 0) {
                            int cell = (set | 1 << i) * EIGHT + i;
                            int then = knock(i, at + Math.abs(spot[last] - spot[i]));
                            soonest[cell] = Math.min(soonest[cell], then);
                        }
                    }
                }
            }
        }

        private void goBackward(int end) {
            int n = house.eightCount;
            Arrays.fill(latest, NONE);
            for (int i = 0; i < n; i++) {
                latest[all * EIGHT + i] = end;
            }
            for (int set = all - 1; set > 0; set--) {
                for (int last = 0; last < n; last++) {
                    for (int i = 0; i < n; i++) {
                        if ((set >> i & 1) == 0) {
                            int by = Math.min(hourOf(i), latest[(set | 1 << i) * EIGHT + i]);
                            int from = by >= hourOf(i) - early ? by - Math.abs(spot[last] - spot[i]) : NONE;
                            latest[set * EIGHT + last] = Math.max(latest[set * EIGHT + last], from);
                        }
                    }
                }
            }
        }

        private void pickOrder() {
            int n = house.eightCount;
            int set = 0;
            int at = 0;
            int from = 0;
            for (int step = 0; step < n; step++) {
                for (int i = 0; i < n; i++) {
                    int then = knock(i, at + Math.abs(spot[i] - from));
                    if ((set >> i & 1) == 0 && then <= latest[(set | 1 << i) * EIGHT + i]) {
                        order[step] = house.eight[i];
                        set |= 1 << i;
                        at = then;
                        from = spot[i];
                        break;
                    }
                }
            }
        }
    }

    /** SWAPS: what each SLEEPER would cost in each BED, and the fewest changes that do. */
    private static final class Changes {
        final House house;
        final State state;
        final Night night;
        final long[] price = new long[MOST_SLEEPERS * MOST_BEDS];
        final int[] inBed = new int[MOST_BEDS];
        final int[] found = new int[2];

        Changes(House house, State state, Night night) {
            this.house = house;
            this.state = state;
            this.night = night;
        }

        int fewestChanges(int l) {
            setPrices();
            long cost = 0;
            for (int i = 0; i < house.sleepers; i++) {
                cost += priceOf(i, state.bedOf[i]);
            }
            long over = cost - l * HUNDREDS[state.sounds];
            if (over <= 0) {
                return 0;
            }
            System.arraycopy(state.sleeperIn, 0, inBed, 0, MOST_BEDS);
            if (seekOne(over, 0)) {
                return 1;
            }
            return seekTwo(over) ? 2 : NEVER;
        }

        private void setPrices() {
            night.arrange(NONE);
            for (int i = 0; i < house.sleepers; i++) {
                for (int bed = 0; bed < house.beds; bed++) {
                    night.listenFrom(i, bed, state.woolOf(i));
                    price[i * MOST_BEDS + bed] = night.share(i);
                }
            }
        }

        private long priceOf(int sleeper, int bed) {
            return sleeper == NOBODY ? 0 : price[sleeper * MOST_BEDS + bed];
        }

        private long saved(int bed, int other) {
            int one = inBed[bed];
            int two = inBed[other];
            return priceOf(one, bed) - priceOf(one, other) + priceOf(two, other) - priceOf(two, bed);
        }

        private boolean seekOne(long over, int as) {
            for (int bed = 0; bed < house.beds; bed++) {
                for (int other = bed + 1; other < house.beds; other++) {
                    if (saved(bed, other) >= over) {
                        found[as] = 100 * bed + other;
                        return true;
                    }
                }
            }
            return false;
        }

        private boolean seekTwo(long over) {
            for (int bed = 0; bed < house.beds; bed++) {
                for (int other = bed + 1; other < house.beds; other++) {
                    long left = over - saved(bed, other);
                    turn(bed, other);
                    if (seekOne(left, 1)) {
                        found[0] = 100 * bed + other;
                        return true;
                    }
                    turn(bed, other);
                }
            }
            return false;
        }

        private void turn(int bed, int other) {
            int one = inBed[bed];
            inBed[bed] = inBed[other];
            inBed[other] = one;
        }
    }
}
