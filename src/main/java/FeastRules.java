import java.util.Arrays;

/** Meetings that recur: rules that name days, sets of days put together from them, all of forty years. */
public final class FeastRules {

    /** There is none; it is refused. */
    public static final int NONE = -1;

    private static final int DAYS = 14610;
    private static final int YEAR_ZERO = 2000;
    private static final int YEARS_TOLD = 40;

    private static final int MOST_BYTES = 1600;
    private static final int MOST_RULES = 6;
    private static final int MOST_SETS = 6;
    private static final int MOST_LETTERS = 6;
    private static final int MOST_DIGITS = 4;
    private static final int MOST_OPEN = 6;
    private static final int MOST_IN_ROW = 8;
    private static final int MOST_STEP = 99;
    private static final int MOST_MARKS = 20;
    private static final int MOST_CHANCES = 40;
    private static final int MOST_ACTS = 20;
    private static final int MOST_SEEN = 12;
    private static final int MOST_FITS = 60;
    private static final int MOST_FREE = 999;
    private static final int SUM_MODULUS = 1000003;

    private static final int UNIT_DAYS = 0;
    private static final int UNIT_WEEKS = 1;
    private static final int UNIT_MONTHS = 2;
    private static final int UNIT_YEARS = 3;

    private static final int FAULT_TEXT = 1;
    private static final int FAULT_NUMBER = 2;
    private static final int FAULT_NAME = 3;
    private static final int FAULT_AGAIN = 4;
    private static final int FAULT_MANY = 5;

    private static final int OP_NAMED = 0;
    private static final int OP_EMPTY = 1;
    private static final int OP_PUT = 2;
    private static final int OP_OR = 3;
    private static final int OP_AND = 4;
    private static final int OP_LESS = 5;
    private static final int OP_LATER = 6;
    private static final int OP_SOONER = 7;
    private static final int OP_OFF = 8;

    private static final int UNMARKED = 0;
    private static final int ADDED = 1;
    private static final int LEFT_OUT = 2;
    private static final int MARKS = 3;

    private static final int ACT_MARKS = 0;
    private static final int ACT_STEP = 1;
    private static final int ACT_BEGIN = 2;

    private static final int REFUSED_TAPE = 0;
    private static final int REFUSED_TEXT = 1;
    private static final int REFUSED_MARK = 2;
    private static final int REFUSED_RULE = 3;
    private static final int REFUSED_UNDO = 4;
    private static final int REFUSED_SEED = 5;

    private final Tape tape = new Tape();
    private final Reader reader = new Reader();
    private final Finder finder = new Finder();
    private final Ledger ledger = new Ledger(finder);
    private final Journal journal = new Journal();
    private final Seen seen = new Seen(finder);
    private final int[] refusals = new int[6];
    private Book current = new Book();
    // A text with a fault must leave the book as it is, so texts are read into another one.
    private Book spare = new Book();
    private int chanceSeed = 1;

    /** No book. */
    public FeastRules() {
        ledger.open(current);
    }

    /** Twenty bytes come behind those on the tape: how many there are. */
    public int feed(int a, int b, int c, int d, int e) {
        if (tape.size + 20 > MOST_BYTES) {
            return refuse(REFUSED_TAPE);
        }
        tape.append(a);
        tape.append(b);
        tape.append(c);
        tape.append(d);
        tape.append(e);
        return tape.size;
    }

    /** The tape has its first n bytes alone. */
    public boolean end(int n) {
        if (n < 0 || n > tape.size) {
            return deny(REFUSED_TAPE);
        }
        tape.size = n;
        return true;
    }

    /** The tape is the book: how many statements. */
    public int book() {
        reader.read(tape, spare);
        tape.size = 0;
        if (reader.fault != 0) {
            return refuse(REFUSED_TEXT);
        }
        Book read = spare;
        spare = current;
        current = read;
        ledger.open(current);
        journal.clear();
        seen.clear();
        return current.rules + current.sets;
    }

    /** Of the latest book(): its fault (0), its place (1). */
    public int fault(int what) {
        switch (what) {
            case 0: return reader.fault;
            case 1: return reader.place;
            default: return NONE;
        }
    }

    /** How many there are of what a book, acts and sights make. */
    public int has(int what) {
        switch (what) {
            case 0: return current.rules;
            case 1: return current.sets;
            case 2: return ledger.marked(ADDED);
            case 3: return ledger.marked(LEFT_OUT);
            case 4: return seen.size;
            case 5: return journal.size;
            default: return NONE;
        }
    }

    /** Letter k of a name: 1 .. 26, 0 behind it. */
    public int letter(int what, int k) {
        if (!current.isWhat(what) || k < 0 || k >= MOST_LETTERS) {
            return NONE;
        }
        return current.letterOf(what, k);
    }

    /** What a rule is made of. */
    public int rule(int rule, int what) {
        Rule asked = current.ruleAt(rule);
        return asked == null ? NONE : asked.tell(what);
    }

    /** The day of a date. */
    public int day(int year, int month, int date) {
        if (year < YEAR_ZERO || year >= YEAR_ZERO + YEARS_TOLD || month < 1 || month > 12) {
            return NONE;
        }
        if (date < 1 || date > Almanac.monthLengthOf(year - YEAR_ZERO, month)) {
            return NONE;
        }
        return Almanac.firstOfMonth(year - YEAR_ZERO, month) + date - 1;
    }

    /** What the calendar tells of a day. */
    public int date(int day, int of) {
        return isDay(day) ? finder.calendarOf(day, of) : NONE;
    }

    /** Whether a day is of what is asked. */
    public int on(int what, int day) {
        DaySet days = ledger.daysOf(what);
        if (days == null || !isDay(day)) {
            return NONE;
        }
        return days.holds(day) ? 1 : 0;
    }

    /** The first day of it behind a day. */
    public int next(int what, int day) {
        DaySet days = ledger.daysOf(what);
        if (days == null || day < -1 || day >= DAYS) {
            return NONE;
        }
        return days.firstFrom(day + 1);
    }

    /** The last day of it ahead of a day. */
    public int ahead(int what, int day) {
        DaySet days = ledger.daysOf(what);
        if (days == null || day < 0 || day > DAYS) {
            return NONE;
        }
        return days.lastUpTo(day - 1);
    }

    /** The k-th day of it, below 0 from the end. */
    public int nth(int what, int k) {
        DaySet days = ledger.daysOf(what);
        if (days == null) {
            return NONE;
        }
        return days.atPlace(k < 0 ? days.between(0, DAYS - 1) + k : k);
    }

    /** How many days of it lie between two days, both with them. */
    public int many(int what, int from, int to) {
        DaySet days = ledger.daysOf(what);
        if (days == null || !isDay(from) || !isDay(to) || from > to) {
            return NONE;
        }
        return days.between(from, to);
    }

    /** The longest gap (0), the day at which the first such one begins (1). */
    public int gap(int what, int of) {
        DaySet days = ledger.daysOf(what);
        if (days == null || of < 0 || of > 1) {
            return NONE;
        }
        int longest = NONE;
        int begins = NONE;
        int one = days.firstFrom(0);
        for (int i = 0; i < DAYS && one != NONE; i++) {
            int other = days.firstFrom(one + 1);
            if (other != NONE && other - one > longest) {
                longest = other - one;
                begins = one;
            }
            one = other;
        }
        return of == 0 ? longest : begins;
    }

    /** The first day from one on, from which n days running are not of it. */
    public int free(int what, int day, int n) {
        DaySet days = ledger.daysOf(what);
        if (days == null || !isDay(day) || n < 1 || n > MOST_FREE) {
            return NONE;
        }
        int start = days.firstMissingFrom(day);
        for (int i = 0; i < DAYS && start != NONE; i++) {
            int taken = days.firstFrom(start);
            int behind = taken == NONE ? DAYS : taken;
            if (behind - start >= n) {
                return start;
            }
            start = days.firstMissingFrom(behind);
        }
        return NONE;
    }

    /** The first day from one on that is of both (0), of just one of both (1). */
    public int meet(int one, int other, int day, int of) {
        DaySet first = ledger.daysOf(one);
        DaySet second = ledger.daysOf(other);
        if (first == null || second == null || !isDay(day) || of < 0 || of > 1) {
            return NONE;
        }
        return first.search(second, day, of == 0 ? DaySet.IN_BOTH : DaySet.IN_JUST_ONE);
    }

    /** How many of its days are a weekday (0 .. 6), or in a month (7 .. 18). */
    public int fares(int what, int of) {
        DaySet days = ledger.daysOf(what);
        if (days == null || of < 0 || of > 18) {
            return NONE;
        }
        int many = 0;
        int day = days.firstFrom(0);
        for (int i = 0; i < DAYS && day != NONE; i++) {
            int found = of < 7 ? Almanac.weekdayOf(day) : Almanac.monthOf(day) + 6;
            if (found == of) {
                many++;
            }
            day = days.firstFrom(day + 1);
        }
        return many;
    }

    /** What the period has in which a day lies, before places (0), behind them (1); whether the rule goes by it (2). */
    public int period(int rule, int day, int what) {
        Rule asked = current.ruleAt(rule);
        if (asked == null || !isDay(day) || what < 0 || what > 2) {
            return NONE;
        }
        int period = Almanac.periodOf(asked.unit, day);
        if (what == 2) {
            return asked.goesBy(period) ? 1 : 0;
        }
        finder.gather(asked, period);
        if (what == 1) {
            finder.keepPlaces(asked);
        }
        return finder.size;
    }

    /** The sum of its days, each by its place, modulo 1,000,003. */
    public int sum(int what) {
        DaySet days = ledger.daysOf(what);
        if (days == null) {
            return NONE;
        }
        long total = 0;
        int day = days.firstFrom(0);
        for (int place = 1; place <= DAYS && day != NONE; place++) {
            total = (total + (long) place * day) % SUM_MODULUS;
            day = days.firstFrom(day + 1);
        }
        return (int) total;
    }

    /** The tape tells what is seen of a rule: how many rows. */
    public int see(int rule) {
        Rule asked = current.ruleAt(rule);
        boolean taken = asked != null && Seen.isTold(tape);
        if (taken) {
            seen.take(tape, asked);
        }
        tape.size = 0;
        return taken ? seen.size : refuse(REFUSED_TEXT);
    }

    /** How many steps explain what is seen (NONE), the k-th of them. */
    public int fits(int k) {
        if (seen.size == 0) {
            return NONE;
        }
        seen.workOut();
        return k == NONE ? seen.fitting : seen.fitAt(k);
    }

    /** The day that tells most (0), how many steps are left by it at the most (1). */
    public int tells(int what) {
        if (seen.size == 0 || what < 0 || what > 1) {
            return NONE;
        }
        seen.workOut();
        return what == 0 ? seen.tellingDay : seen.tellingLeft;
    }

    /** A day is added to a set. */
    public boolean add(int set, int day) {
        return turn(set, day, ADDED);
    }

    /** A day is left out of a set. */
    public boolean leave(int set, int day) {
        return turn(set, day, LEFT_OUT);
    }

    /** Another step of a rule. */
    public boolean every(int rule, int n) {
        Rule asked = current.ruleAt(rule);
        if (asked == null || n < 1 || n > MOST_STEP || n == asked.step) {
            return deny(REFUSED_RULE);
        }
        journal.openRule(ACT_STEP, rule, asked.step);
        asked.step = n;
        ledger.ruleChanged(rule);
        return true;
    }

    /** Another beginning of a rule. */
    public boolean from(int rule, int day) {
        Rule asked = current.ruleAt(rule);
        if (asked == null || !isDay(day) || day == asked.begin) {
            return deny(REFUSED_RULE);
        }
        journal.openRule(ACT_BEGIN, rule, asked.begin);
        asked.beginAt(day);
        ledger.ruleChanged(rule);
        seen.forget();
        return true;
    }

    /** Days added or left out by the seed, n times, as one act: how many were. */
    public int chance(int n) {
        if (n < 1 || n > MOST_CHANCES || current.sets == 0) {
            return refuse(REFUSED_MARK);
        }
        journal.openMarks();
        Row changes = journal.latestChanges();
        for (int i = 0; i < n; i++) {
            int set = draw(current.sets);
            int day = draw(DAYS);
            DaySet days = ledger.daysOf(MOST_RULES + set);
            boolean inIt = days != null && days.holds(day);
            int change = ledger.turn(set, day, inIt ? LEFT_OUT : ADDED);
            if (change != NONE) {
                changes.append(change);
            }
        }
        return changes.size;
    }

    /** The latest act is undone. */
    public boolean undo() {
        if (journal.size == 0) {
            return deny(REFUSED_UNDO);
        }
        if (journal.latestKind() == ACT_MARKS) {
            ledger.turnBack(journal.latestChanges());
        } else {
            restoreRule();
        }
        journal.drop();
        return true;
    }

    /** The seed. */
    public boolean seed(int seed) {
        if (seed < 0) {
            return deny(REFUSED_SEED);
        }
        chanceSeed = seed;
        return true;
    }

    /** How many calls were refused. */
    public int status(int what) {
        return what < 0 || what >= refusals.length ? NONE : refusals[what];
    }

    private static boolean isDay(int day) {
        return day >= 0 && day < DAYS;
    }

    private int refuse(int kind) {
        if (kind >= 0 && kind < refusals.length) {
            refusals[kind]++;
        }
        return NONE;
    }

    private boolean deny(int kind) {
        refuse(kind);
        return false;
    }

    private boolean turn(int set, int day, int wanted) {
        DaySet days = set < 0 ? null : ledger.daysOf(MOST_RULES + set);
        if (days == null || days.holds(day) != (wanted == LEFT_OUT)) {
            return deny(REFUSED_MARK);
        }
        int change = ledger.turn(set, day, wanted);
        if (change == NONE) {
            return deny(REFUSED_MARK);
        }
        journal.openMarks();
        journal.latestChanges().append(change);
        return true;
    }

    private void restoreRule() {
        Rule changed = current.ruleAt(journal.latestRule());
        if (changed == null) {
            return;
        }
        if (journal.latestKind() == ACT_STEP) {
            changed.step = journal.latestBefore();
        } else {
            changed.beginAt(journal.latestBefore());
            seen.forget();
        }
        ledger.ruleChanged(journal.latestRule());
    }

    private int draw(int many) {
        chanceSeed = (int) ((1103515245L * chanceSeed + 12345L) & 0x7fffffffL);
        return many < 1 ? 0 : chanceSeed / 64 % many;
    }

    /** The bytes that were fed. */
    private static final class Tape {
        final byte[] bytes = new byte[MOST_BYTES];
        int size;

        void append(int four) {
            for (int shift = 24; shift >= 0 && size < bytes.length; shift -= 8) {
                bytes[size] = (byte) (four >> shift);
                size++;
            }
        }

        int byteAt(int i) {
            return i < 0 || i >= size || i >= bytes.length ? 0 : bytes[i] & 255;
        }
    }

    /** A row of numbers, so many at most. */
    private static final class Row {
        final int[] values;
        int size;

        Row(int most) {
            values = new int[Math.max(0, most)];
        }

        void clear() {
            size = 0;
        }

        int valueAt(int i) {
            return i < 0 || i >= size || i >= values.length ? 0 : values[i];
        }

        int indexOf(int value) {
            for (int i = 0; i < size && i < values.length; i++) {
                if (values[i] == value) {
                    return i;
                }
            }
            return NONE;
        }

        void append(int value) {
            if (size < values.length) {
                values[size] = value;
                size++;
            }
        }

        void remove(int value) {
            int i = indexOf(value);
            if (i != NONE) {
                size--;
                values[i] = values[size];
            }
        }

        void copy(Row other) {
            size = 0;
            for (int i = 0; i < other.size; i++) {
                append(other.valueAt(i));
            }
        }
    }

    /** One day with what the calendar tells of it, and the calendar itself. Years count from 2000 on here. */
    private static final class Almanac {
        // Days of a common year ahead of month 1 .. 12, and behind the last.
        private static final int[] AHEAD = {0, 31, 59, 90, 120, 151, 181, 212, 243, 273, 304, 334, 365};

        int day;
        int year;
        int month;
        int date;
        int weekday;
        int monthLength;
        int yearDay;
        int yearLength;

        static int firstOfYear(int year) {
            return year * 365 + (year + 3) / 4;
        }

        static int yearOf(int day) {
            int inFour = day % 1461;
            return day / 1461 * 4 + (inFour < 366 ? 0 : (inFour - 1) / 365);
        }

        static int daysAhead(int year, int month) {
            if (month < 1 || month > AHEAD.length) {
                return 0;
            }
            return AHEAD[month - 1] + (month > 2 && year % 4 == 0 ? 1 : 0);
        }

        static int firstOfMonth(int year, int month) {
            return firstOfYear(year) + daysAhead(year, month);
        }

        static int monthLengthOf(int year, int month) {
            return daysAhead(year, month + 1) - daysAhead(year, month);
        }

        static int monthOf(int day) {
            int year = yearOf(day);
            int behind = day - firstOfYear(year);
            int month = 12;
            while (month > 1 && daysAhead(year, month) > behind) {
                month--;
            }
            return month;
        }

        static int weekdayOf(int day) {
            return (day + 5) % 7;
        }

        static int periodOf(int unit, int day) {
            switch (unit) {
                case UNIT_WEEKS: return (day + 5) / 7;
                case UNIT_MONTHS: return yearOf(day) * 12 + monthOf(day) - 1;
                case UNIT_YEARS: return yearOf(day);
                default: return day;
            }
        }

        static int firstOfPeriod(int unit, int period) {
            switch (unit) {
                case UNIT_WEEKS: return Math.max(0, period * 7 - 5);
                case UNIT_MONTHS: return firstOfMonth(period / 12, period % 12 + 1);
                case UNIT_YEARS: return firstOfYear(period);
                default: return period;
            }
        }

        void moveTo(int to) {
            if (!isDay(to)) {
                return;
            }
            day = to;
            weekday = weekdayOf(to);
            year = yearOf(to);
            yearDay = to - firstOfYear(year) + 1;
            yearLength = firstOfYear(year + 1) - firstOfYear(year);
            month = 12;
            while (month > 1 && daysAhead(year, month) >= yearDay) {
                month--;
            }
            date = yearDay - daysAhead(year, month);
            monthLength = daysAhead(year, month + 1) - daysAhead(year, month);
        }

        void forward() {
            if (date >= monthLength) {
                moveTo(day + 1);
                return;
            }
            day++;
            date++;
            yearDay++;
            weekday = weekday == 6 ? 0 : weekday + 1;
        }
    }

    /** Days, a bit each. */
    private static final class DaySet {
        static final int IN_BOTH = 0;
        static final int IN_JUST_ONE = 1;
        static final int IN_NONE = 2;
        private static final int WORDS = 229;
        // Bits behind the last day stay 0.
        private static final long LAST_WORD = (1L << (DAYS & 63)) - 1;

        private final long[] bits = new long[WORDS];

        void clear() {
            Arrays.fill(bits, 0L);
        }

        void copy(DaySet other) {
            System.arraycopy(other.bits, 0, bits, 0, WORDS);
        }

        boolean holds(int day) {
            return isDay(day) && (bits[day >> 6] >>> (day & 63) & 1L) != 0;
        }

        void put(int day) {
            if (isDay(day)) {
                bits[day >> 6] |= 1L << (day & 63);
            }
        }

        void take(int day) {
            if (isDay(day)) {
                bits[day >> 6] &= ~(1L << (day & 63));
            }
        }

        void unite(DaySet other) {
            for (int i = 0; i < WORDS; i++) {
                bits[i] |= other.bits[i];
            }
        }

        void limit(DaySet other) {
            for (int i = 0; i < WORDS; i++) {
                bits[i] &= other.bits[i];
            }
        }

        void without(DaySet other) {
            for (int i = 0; i < WORDS; i++) {
                bits[i] &= ~other.bits[i];
            }
        }

        void shiftLater(int days) {
            int whole = days >> 6;
            int part = days & 63;
            for (int i = WORDS - 1; i >= 0; i--) {
                long low = part == 0 ? 0L : word(i - whole - 1) >>> (64 - part);
                bits[i] = word(i - whole) << part | low;
            }
            bits[WORDS - 1] &= LAST_WORD;
        }

        void shiftSooner(int days) {
            int whole = days >> 6;
            int part = days & 63;
            for (int i = 0; i < WORDS; i++) {
                long high = part == 0 ? 0L : word(i + whole + 1) << (64 - part);
                bits[i] = word(i + whole) >>> part | high;
            }
        }

        /** Each day that is of the other becomes the next one that is not. */
        void moveOff(DaySet other) {
            int day = search(other, 0, IN_BOTH);
            for (int i = 0; i < DAYS && day != NONE; i++) {
                int target = other.search(other, day, IN_NONE);
                put(target);
                day = target == NONE ? NONE : search(other, target, IN_BOTH);
            }
            without(other);
        }

        int firstFrom(int day) {
            return search(this, day, IN_BOTH);
        }

        int firstMissingFrom(int day) {
            return search(this, day, IN_NONE);
        }

        int search(DaySet other, int from, int how) {
            if (from < 0 || from >= DAYS) {
                return NONE;
            }
            long found = 0L;
            int i = from >> 6;
            long asked = -1L << (from & 63);
            while (found == 0L && i < WORDS) {
                long mine = bits[i];
                long its = other.bits[i];
                found = how == IN_BOTH ? mine & its : how == IN_JUST_ONE ? mine ^ its : ~(mine | its);
                found &= i == WORDS - 1 ? asked & LAST_WORD : asked;
                asked = -1L;
                i++;
            }
            return found == 0L ? NONE : (i - 1) * 64 + Long.bitCount((found & -found) - 1);
        }

        int lastUpTo(int day) {
            if (!isDay(day)) {
                return NONE;
            }
            int i = day >> 6;
            long found = bits[i] & (-1L >>> (63 - (day & 63)));
            while (found == 0 && i > 0) {
                i--;
                found = bits[i];
            }
            if (found == 0) {
                return NONE;
            }
            for (int shift = 1; shift < 64; shift *= 2) {
                found |= found >>> shift;
            }
            return i * 64 + Long.bitCount(found) - 1;
        }

        int between(int from, int to) {
            if (!isDay(from) || !isDay(to) || from > to) {
                return 0;
            }
            int first = from >> 6;
            int last = to >> 6;
            int many = 0;
            for (int i = first; i <= last; i++) {
                long left = i == first ? -1L << (from & 63) : -1L;
                long right = i == last ? -1L >>> (63 - (to & 63)) : -1L;
                many += Long.bitCount(bits[i] & left & right);
            }
            return many;
        }

        int atPlace(int place) {
            if (place < 0) {
                return NONE;
            }
            int ahead = place;
            int i = 0;
            while (i < WORDS && Long.bitCount(bits[i]) <= ahead) {
                ahead -= Long.bitCount(bits[i]);
                i++;
            }
            if (i >= WORDS) {
                return NONE;
            }
            long left = bits[i];
            for (int k = 0; k < ahead; k++) {
                left &= left - 1;
            }
            return i * 64 + Long.bitCount((left & -left) - 1);
        }

        private long word(int i) {
            return i < 0 || i >= WORDS ? 0L : bits[i];
        }
    }

    /** A rule as its text tells it. */
    private static final class Rule {
        int step;
        int unit;
        int begin;
        int beginMonth;
        int beginDate;
        int beginWeekday;
        int until;
        int count;
        // Bits of the months of in; of the dates of on, from the front and from the end; of the weekdays of by.
        int months;
        int dates;
        int datesBack;
        int weekdays;
        int onSize;
        // A place (0 without) times 8 and the weekday.
        final Row by = new Row(MOST_IN_ROW);
        final Row at = new Row(MOST_IN_ROW);

        void clearParts() {
            months = 0;
            dates = 0;
            datesBack = 0;
            weekdays = 0;
            onSize = 0;
            by.clear();
            at.clear();
            until = NONE;
            count = NONE;
        }

        void beginAt(int day) {
            int year = Almanac.yearOf(day);
            begin = day;
            beginMonth = Almanac.monthOf(day);
            beginDate = day - Almanac.firstOfMonth(year, beginMonth) + 1;
            beginWeekday = Almanac.weekdayOf(day);
        }

        void tellMonths(Row row) {
            for (int i = 0; i < row.size; i++) {
                months |= 1 << row.valueAt(i);
            }
        }

        void tellDates(Row row) {
            onSize = row.size;
            for (int i = 0; i < row.size; i++) {
                int place = row.valueAt(i);
                if (place > 0) {
                    dates |= 1 << place;
                } else {
                    datesBack |= 1 << -place;
                }
            }
        }

        void tellWeekdays(Row row) {
            by.copy(row);
            for (int i = 0; i < row.size; i++) {
                weekdays |= 1 << (row.valueAt(i) & 7);
            }
        }

        int tell(int what) {
            switch (what) {
                case 0: return step;
                case 1: return unit;
                case 2: return begin;
                case 3: return months;
                case 4: return onSize;
                case 5: return by.size;
                case 6: return at.size;
                case 7: return until;
                case 8: return count;
                default: return NONE;
            }
        }

        boolean goesBy(int period) {
            int behind = period - Almanac.periodOf(unit, begin);
            return behind >= 0 && step > 0 && behind % step == 0;
        }

        /** Whether a day is one of those that its period has, before places are taken. */
        boolean counts(Almanac day) {
            if (months != 0 && (months >> day.month & 1) == 0) {
                return false;
            }
            switch (unit) {
                case UNIT_DAYS: return dateTold(day) && weekdayTold(day);
                case UNIT_WEEKS: return dateTold(day) && (by.size > 0 ? weekdayTold(day) : day.weekday == beginWeekday);
                case UNIT_MONTHS: return countsInMonth(day);
                default: return months != 0 || onSize > 0 ? countsInMonth(day) : countsInYear(day);
            }
        }

        private boolean countsInMonth(Almanac day) {
            if (onSize > 0) {
                return dateTold(day) && weekdayTold(day);
            }
            return by.size > 0 ? placeTold(day.weekday, day.date, day.monthLength) : day.date == beginDate;
        }

        private boolean countsInYear(Almanac day) {
            if (by.size > 0) {
                return placeTold(day.weekday, day.yearDay, day.yearLength);
            }
            return day.month == beginMonth && day.date == beginDate;
        }

        private boolean dateTold(Almanac day) {
            return onSize == 0 || (dates >> day.date & 1) != 0
                || (datesBack >> (day.monthLength + 1 - day.date) & 1) != 0;
        }

        private boolean weekdayTold(Almanac day) {
            return by.size == 0 || (weekdays >> day.weekday & 1) != 0;
        }

        private boolean placeTold(int weekday, int number, int length) {
            int front = (number - 1) / 7 + 1;
            int back = (length - number) / 7 + 1;
            for (int i = 0; i < by.size && i < by.values.length; i++) {
                int place = by.values[i] >> 3;
                if ((by.values[i] & 7) == weekday && (place == 0 || place == front || place == -back)) {
                    return true;
                }
            }
            return false;
        }
    }

    /** Finds the days of rules. */
    private static final class Finder {
        private final Almanac almanac = new Almanac();
        private final int[] found = new int[366];
        int size;

        int calendarOf(int day, int of) {
            almanac.moveTo(day);
            switch (of) {
                case 0: return YEAR_ZERO + almanac.year;
                case 1: return almanac.month;
                case 2: return almanac.date;
                case 3: return almanac.weekday;
                case 4: return almanac.yearDay;
                case 5: return almanac.monthLength;
                default: return NONE;
            }
        }

        /** What a period has, before places are taken. */
        void gather(Rule rule, int period) {
            int first = Almanac.firstOfPeriod(rule.unit, period);
            int last = Math.min(DAYS, Almanac.firstOfPeriod(rule.unit, period + 1)) - 1;
            size = 0;
            almanac.moveTo(first);
            for (int day = first; day <= last && size < found.length; day++) {
                if (rule.counts(almanac)) {
                    found[size] = day;
                    size++;
                }
                almanac.forward();
            }
        }

        void keepPlaces(Rule rule) {
            if (rule.at.size == 0) {
                return;
            }
            int kept = 0;
            for (int i = 0; i < size && i < found.length; i++) {
                if (rule.at.indexOf(i + 1) != NONE || rule.at.indexOf(i - size) != NONE) {
                    found[kept] = found[i];
                    kept++;
                }
            }
            size = kept;
        }

        /** All days of a rule, by a step that may be another than its own. */
        void fill(Rule rule, int step, DaySet into) {
            int last = rule.until == NONE ? DAYS - 1 : rule.until;
            int left = rule.count == NONE ? DAYS : rule.count;
            int period = Almanac.periodOf(rule.unit, rule.begin);
            into.clear();
            for (int i = 0; i < DAYS && left > 0 && Almanac.firstOfPeriod(rule.unit, period) <= last; i++) {
                gather(rule, period);
                keepPlaces(rule);
                for (int k = 0; k < size && k < found.length && left > 0; k++) {
                    if (found[k] >= rule.begin && found[k] <= last) {
                        into.put(found[k]);
                        left--;
                    }
                }
                period += step;
            }
        }
    }

    /** What a text tells: rules, and how each set is put together (operands ahead of what joins them). */
    private static final class Book {
        // A word or a date lies behind each step, so there are fewer than half as many as bytes.
        private static final int MOST_CODE = MOST_BYTES / 2;
        private static final int ARGUMENT_BITS = 14;
        private static final int LETTER_BITS = 5;

        int rules;
        int sets;
        private int codeSize;
        private final Rule[] ruleRow = new Rule[MOST_RULES];
        private final int[] names = new int[MOST_RULES + MOST_SETS];
        private final int[] code = new int[MOST_CODE];
        private final int[] codeEnds = new int[MOST_SETS];

        Book() {
            for (int i = 0; i < MOST_RULES; i++) {
                ruleRow[i] = new Rule();
            }
        }

        void clear() {
            rules = 0;
            sets = 0;
            codeSize = 0;
        }

        boolean isWhat(int what) {
            return what >= 0 && what < rules || what >= MOST_RULES && what < MOST_RULES + sets;
        }

        Rule ruleAt(int rule) {
            return rule < 0 || rule >= rules || rule >= ruleRow.length ? null : ruleRow[rule];
        }

        /** The rule that comes next, to be told. */
        Rule openRule() {
            return ruleRow[Math.min(rules, MOST_RULES - 1)];
        }

        void closeRule(int name) {
            if (rules < MOST_RULES) {
                names[rules] = name;
                rules++;
            }
        }

        void closeSet(int name) {
            if (sets < MOST_SETS) {
                names[MOST_RULES + sets] = name;
                codeEnds[sets] = codeSize;
                sets++;
            }
        }

        int find(int name) {
            for (int what = 0; what < names.length; what++) {
                if (isWhat(what) && names[what] == name) {
                    return what;
                }
            }
            return NONE;
        }

        int letterOf(int what, int k) {
            if (what < 0 || what >= names.length) {
                return 0;
            }
            return names[what] >> (LETTER_BITS * (MOST_LETTERS - 1 - k)) & 31;
        }

        void append(int op, int argument) {
            if (codeSize < code.length) {
                code[codeSize] = op << ARGUMENT_BITS | argument;
                codeSize++;
            }
        }

        int codeStart(int set) {
            return set < 1 || set > codeEnds.length ? 0 : codeEnds[set - 1];
        }

        int codeEnd(int set) {
            return set < 0 || set >= codeEnds.length ? 0 : codeEnds[set];
        }

        int opAt(int i) {
            return i < 0 || i >= code.length ? 0 : code[i] >> ARGUMENT_BITS;
        }

        int argumentAt(int i) {
            return i < 0 || i >= code.length ? 0 : code[i] & (1 << ARGUMENT_BITS) - 1;
        }
    }

    /** Reads a tape as a book, up to its first fault. */
    private static final class Reader {
        private static final int END = 0;
        private static final int WORD = 1;
        private static final int NUMBER = 2;
        private static final int SIGN = 3;
        // A word and a number side by side without a blank, or what lies behind a fault: no text goes on with it.
        private static final int STUCK = 4;

        private static final int PART_IN = 0;
        private static final int PART_ON = 1;
        private static final int PART_BY = 2;
        private static final int PART_AT = 3;
        private static final int PART_UNTIL = 4;
        private static final int PART_COUNT = 5;

        // Own words that are no part, no unit and no weekday, each in a cell of six; likewise the others.
        private static final String OTHER_WORDS = "rule  every from  set   is    or    and   less  later sooneroff   day   ";
        private static final String PART_WORDS = "in    on    by    at    until count ";
        private static final String UNIT_WORDS = "days  weeks monthsyears ";
        private static final String WEEKDAY_WORDS = "mon   tue   wed   thu   fri   sat   sun   ";

        int fault;
        int place = NONE;
        private byte[] text = new byte[0];
        private int length;
        private int kind;
        private int start;
        private int end;
        private Book told;
        private final Row row = new Row(MOST_IN_ROW);

        void read(Tape tape, Book into) {
            text = tape.bytes;
            length = Math.min(tape.size, text.length);
            told = into;
            told.clear();
            fault = 0;
            place = NONE;
            kind = SIGN;
            end = 0;
            advance();
            for (int i = 0; i < MOST_BYTES && (i == 0 || kind != END); i++) {
                if (isWord("rule")) {
                    ruleText();
                } else if (isWord("set")) {
                    setText();
                } else {
                    refuse(FAULT_TEXT, start);
                }
                pass(isSign(';'));
                if (fault != 0) {
                    return;
                }
            }
        }

        private void ruleText() {
            if (told.rules >= MOST_RULES) {
                refuse(FAULT_MANY, start);
                return;
            }
            advance();
            int name = newName();
            Rule rule = told.openRule();
            rule.clearParts();
            pass(isWord("every"));
            rule.step = number(1, MOST_STEP);
            rule.unit = wordAmong(UNIT_WORDS);
            pass(rule.unit != NONE);
            pass(isWord("from"));
            rule.beginAt(dateText());
            int parts = 0;
            int part = wordAmong(PART_WORDS);
            for (int i = 0; i < MOST_BYTES && part != NONE; i++) {
                if ((parts >> part & 1) != 0) {
                    refuse(FAULT_AGAIN, start);
                }
                parts |= 1 << part;
                advance();
                partText(part, rule);
                part = wordAmong(PART_WORDS);
            }
            told.closeRule(name);
        }

        private void partText(int part, Rule rule) {
            switch (part) {
                case PART_UNTIL:
                    rule.until = dateText();
                    return;
                case PART_COUNT:
                    rule.count = number(1, 999);
                    return;
                default:
                    rowText(part, rule.unit);
            }
            switch (part) {
                case PART_IN:
                    rule.tellMonths(row);
                    return;
                case PART_ON:
                    rule.tellDates(row);
                    return;
                case PART_BY:
                    rule.tellWeekdays(row);
                    return;
                default:
                    rule.at.copy(row);
            }
        }

        private void rowText(int part, int unit) {
            row.clear();
            for (int i = 0; i < MOST_IN_ROW; i++) {
                int first = start;
                int value = member(part, unit);
                if (row.indexOf(value) != NONE) {
                    refuse(FAULT_AGAIN, first);
                }
                row.append(value);
                if (!nextInRow()) {
                    return;
                }
            }
        }

        /** Goes on behind a comma; one behind the last that a row may have is a fault. */
        private boolean nextInRow() {
            if (!isSign(',')) {
                return false;
            }
            advance();
            if (row.size >= MOST_IN_ROW) {
                // Blanks are no part of a row: where nothing else follows, there is no ninth and the text ends too soon.
                refuse(kind == END ? FAULT_TEXT : FAULT_MANY, start);
                return false;
            }
            return true;
        }

        private int member(int part, int unit) {
            if (part == PART_IN) {
                return number(1, 12);
            }
            boolean back = isSign('-');
            boolean placed = back || kind == NUMBER;
            if (part == PART_BY && placed && unit < UNIT_MONTHS) {
                refuse(FAULT_AGAIN, start);
            }
            if (back) {
                advance();
            }
            int number = part == PART_BY && !placed ? 0 : number(1, part == PART_ON ? 31 : part == PART_BY ? 53 : 99);
            int signed = back ? -number : number;
            if (part != PART_BY) {
                return signed;
            }
            int weekday = wordAmong(WEEKDAY_WORDS);
            pass(weekday != NONE);
            return signed * 8 + Math.max(0, weekday);
        }

        private void setText() {
            if (told.sets >= MOST_SETS) {
                refuse(FAULT_MANY, start);
                return;
            }
            advance();
            int name = newName();
            pass(isWord("is"));
            sumText(0);
            told.closeSet(name);
        }

        private void sumText(int open) {
            bothText(open);
            for (int i = 0; i < MOST_BYTES && isWord("or"); i++) {
                advance();
                bothText(open);
                told.append(OP_OR, 0);
            }
        }

        private void bothText(int open) {
            oneText(open);
            for (int i = 0; i < MOST_BYTES && (isWord("and") || isWord("less")); i++) {
                int op = isWord("and") ? OP_AND : OP_LESS;
                advance();
                oneText(open);
                told.append(op, 0);
            }
        }

        private void oneText(int open) {
            firstText(open);
            for (int i = 0; i < MOST_BYTES && (isWord("later") || isWord("sooner") || isWord("off")); i++) {
                int op = isWord("later") ? OP_LATER : isWord("sooner") ? OP_SOONER : OP_OFF;
                advance();
                told.append(op, op == OP_OFF ? knownName() : number(1, 99));
            }
        }

        private void firstText(int open) {
            if (isSign('(') && open >= MOST_OPEN) {
                refuse(FAULT_MANY, start);
            } else if (isSign('(')) {
                advance();
                sumText(open + 1);
                pass(isSign(')'));
            } else if (isWord("day")) {
                advance();
                daysText();
            } else {
                told.append(OP_NAMED, knownName());
            }
        }

        private void daysText() {
            told.append(OP_EMPTY, 0);
            row.clear();
            for (int i = 0; i < MOST_IN_ROW; i++) {
                int first = start;
                int day = dateText();
                if (row.indexOf(day) != NONE) {
                    refuse(FAULT_AGAIN, first);
                }
                row.append(day);
                told.append(OP_PUT, day);
                if (!nextInRow()) {
                    return;
                }
            }
        }

        private int dateText() {
            int year = number(YEAR_ZERO, YEAR_ZERO + YEARS_TOLD - 1) - YEAR_ZERO;
            pass(isSign('-'));
            int month = number(1, 12);
            pass(isSign('-'));
            if (fault != 0) {
                return 0;
            }
            int date = number(1, Almanac.monthLengthOf(year, month));
            return fault != 0 ? 0 : Almanac.firstOfMonth(year, month) + date - 1;
        }

        private int number(int least, int most) {
            if (kind != NUMBER) {
                refuse(FAULT_TEXT, start);
                return 0;
            }
            if (end - start > MOST_DIGITS) {
                refuse(FAULT_TEXT, start + MOST_DIGITS);
                return 0;
            }
            int value = 0;
            for (int i = start; i < end && i < length; i++) {
                value = value * 10 + text[i] - '0';
            }
            if (value < least || value > most) {
                refuse(FAULT_NUMBER, start);
                return 0;
            }
            advance();
            return value;
        }

        private int newName() {
            int first = start;
            int name = name();
            if (told.find(name) != NONE) {
                refuse(FAULT_NAME, first);
            }
            return name;
        }

        private int knownName() {
            int first = start;
            int what = told.find(name());
            if (what == NONE) {
                refuse(FAULT_NAME, first);
            }
            return Math.max(0, what);
        }

        /** A name as a number: its letters, five bits each, the first one highest. */
        private int name() {
            if (kind != WORD || isOwnWord()) {
                refuse(FAULT_TEXT, start);
            } else if (end - start > MOST_LETTERS) {
                refuse(FAULT_TEXT, start + MOST_LETTERS);
            }
            if (fault != 0) {
                return 0;
            }
            int name = 0;
            for (int i = start; i < start + MOST_LETTERS; i++) {
                name = name * 32 + (i < end && i < length ? text[i] - 'a' + 1 : 0);
            }
            advance();
            return name;
        }

        private boolean isOwnWord() {
            return wordAmong(OTHER_WORDS) != NONE || wordAmong(PART_WORDS) != NONE
                || wordAmong(UNIT_WORDS) != NONE || wordAmong(WEEKDAY_WORDS) != NONE;
        }

        private boolean isWord(String word) {
            if (kind != WORD || end - start != word.length()) {
                return false;
            }
            for (int i = 0; i < word.length() && start + i < length; i++) {
                if (text[start + i] != word.charAt(i)) {
                    return false;
                }
            }
            return true;
        }

        /** Which of the words in cells of six the present one is. */
        private int wordAmong(String cells) {
            if (kind != WORD || end - start > MOST_LETTERS) {
                return NONE;
            }
            for (int cell = 0; (cell + 1) * MOST_LETTERS <= cells.length(); cell++) {
                int same = 0;
                for (int i = 0; i < MOST_LETTERS; i++) {
                    int here = start + i < end && start + i < length ? text[start + i] : ' ';
                    same += here == cells.charAt(cell * MOST_LETTERS + i) ? 1 : 0;
                }
                if (same == MOST_LETTERS) {
                    return cell;
                }
            }
            return NONE;
        }

        private boolean isSign(char sign) {
            return kind == SIGN && start < length && text[start] == sign;
        }

        /** Goes on behind what is right there; else no text goes on so. */
        private void pass(boolean right) {
            if (right) {
                advance();
            } else {
                refuse(FAULT_TEXT, start);
            }
        }

        private void refuse(int what, int where) {
            if (fault == 0) {
                fault = what;
                place = where;
            }
            kind = STUCK;
        }

        /** Goes on to the next word, number or sign. */
        private void advance() {
            if (fault != 0) {
                return;
            }
            boolean tight = kind == WORD || kind == NUMBER;
            int behind = end;
            start = behind;
            while (start < length && (text[start] == ' ' || text[start] == '\n')) {
                start++;
            }
            end = start;
            while (end < length && text[end] >= 'a' && text[end] <= 'z') {
                end++;
            }
            kind = WORD;
            if (end == start) {
                kind = NUMBER;
                while (end < length && text[end] >= '0' && text[end] <= '9') {
                    end++;
                }
            }
            if (end == start) {
                kind = end < length ? SIGN : END;
                end = Math.min(length, end + 1);
            } else if (tight && start == behind) {
                kind = STUCK;
            }
        }
    }

    /** The days of all that a book names, with what is added and left out by hand. */
    private static final class Ledger {
        // Six open brackets, each with a sum and a product that wait, and what is at hand.
        private static final int MOST_STACKED = 2 * (MOST_OPEN + 1) + 1;

        private final Finder finder;
        private final DaySet[] known = new DaySet[MOST_RULES + MOST_SETS];
        private final DaySet[] stack = new DaySet[MOST_STACKED];
        private final Row[] added = new Row[MOST_SETS];
        private final Row[] leftOut = new Row[MOST_SETS];
        private Book book;
        private int depth;
        // Sets from the front on whose days are worked out; one depends on those ahead of it alone.
        private int setsKnown;

        Ledger(Finder finder) {
            this.finder = finder;
            for (int i = 0; i < known.length; i++) {
                known[i] = new DaySet();
            }
            for (int i = 0; i < stack.length; i++) {
                stack[i] = new DaySet();
            }
            for (int i = 0; i < MOST_SETS; i++) {
                added[i] = new Row(MOST_MARKS);
                leftOut[i] = new Row(MOST_MARKS);
            }
        }

        void open(Book opened) {
            book = opened;
            for (int i = 0; i < MOST_SETS; i++) {
                added[i].clear();
                leftOut[i].clear();
            }
            for (int rule = 0; rule < book.rules; rule++) {
                ruleChanged(rule);
            }
            setsKnown = 0;
        }

        void ruleChanged(int rule) {
            Rule changed = book == null ? null : book.ruleAt(rule);
            if (changed != null && rule < known.length) {
                finder.fill(changed, changed.step, known[rule]);
                setsKnown = 0;
            }
        }

        /** The days of a rule or a set; null when there is none such. */
        DaySet daysOf(int what) {
            if (book == null || !book.isWhat(what) || what >= known.length) {
                return null;
            }
            for (int i = 0; i < MOST_SETS && setsKnown <= what - MOST_RULES; i++) {
                putTogether(setsKnown);
                setsKnown++;
            }
            return known[what];
        }

        int marked(int mark) {
            int many = 0;
            for (int set = 0; set < MOST_SETS; set++) {
                many += rowOf(set, mark).size;
            }
            return many;
        }

        /** Adds a day or leaves it out: the change as a number; NONE when it can't be. */
        int turn(int set, int day, int wanted) {
            if (set < 0 || set >= MOST_SETS || !isDay(day)) {
                return NONE;
            }
            int before = markOf(set, day);
            int after = before == UNMARKED ? wanted : UNMARKED;
            if (after != UNMARKED && rowOf(set, after).size >= MOST_MARKS) {
                return NONE;
            }
            mark(set, day, after);
            return (set * DAYS + day) * MARKS + before;
        }

        void turnBack(Row changes) {
            for (int i = changes.size - 1; i >= 0; i--) {
                int change = changes.valueAt(i);
                int where = change / MARKS;
                mark(where / DAYS, where % DAYS, change % MARKS);
            }
        }

        private int markOf(int set, int day) {
            if (rowOf(set, ADDED).indexOf(day) != NONE) {
                return ADDED;
            }
            return rowOf(set, LEFT_OUT).indexOf(day) != NONE ? LEFT_OUT : UNMARKED;
        }

        private void mark(int set, int day, int mark) {
            rowOf(set, ADDED).remove(day);
            rowOf(set, LEFT_OUT).remove(day);
            if (mark != UNMARKED) {
                rowOf(set, mark).append(day);
            }
            setsKnown = Math.min(setsKnown, set);
        }

        private Row rowOf(int set, int mark) {
            int i = Math.max(0, Math.min(set, MOST_SETS - 1));
            return mark == ADDED ? added[i] : leftOut[i];
        }

        private void putTogether(int set) {
            depth = 0;
            for (int i = book.codeStart(set); i < book.codeEnd(set); i++) {
                perform(book.opAt(i), book.argumentAt(i));
            }
            if (set < 0 || set >= MOST_SETS) {
                return;
            }
            DaySet days = known[MOST_RULES + set];
            days.copy(stack[0]);
            for (int i = 0; i < added[set].size; i++) {
                days.put(added[set].valueAt(i));
            }
            for (int i = 0; i < leftOut[set].size; i++) {
                days.take(leftOut[set].valueAt(i));
            }
        }

        private void perform(int op, int argument) {
            DaySet named = known[Math.max(0, Math.min(argument, known.length - 1))];
            if (op == OP_NAMED || op == OP_EMPTY) {
                lay(op == OP_NAMED ? named : null);
                return;
            }
            DaySet upper = stack[Math.max(0, depth - 1)];
            switch (op) {
                case OP_PUT:
                    upper.put(argument);
                    break;
                case OP_LATER:
                    upper.shiftLater(argument);
                    break;
                case OP_SOONER:
                    upper.shiftSooner(argument);
                    break;
                case OP_OFF:
                    upper.moveOff(named);
                    break;
                default:
                    join(op, upper);
            }
        }

        private void lay(DaySet days) {
            if (depth >= stack.length) {
                return;
            }
            if (days == null) {
                stack[depth].clear();
            } else {
                stack[depth].copy(days);
            }
            depth++;
        }

        private void join(int op, DaySet upper) {
            if (depth < 2) {
                return;
            }
            depth--;
            DaySet lower = stack[depth - 1];
            if (op == OP_OR) {
                lower.unite(upper);
            } else if (op == OP_AND) {
                lower.limit(upper);
            } else {
                lower.without(upper);
            }
        }
    }

    /** The latest acts, in a ring: what each one changed, and how it was before. */
    private static final class Journal {
        private final int[] kinds = new int[MOST_ACTS];
        private final int[] rules = new int[MOST_ACTS];
        private final int[] befores = new int[MOST_ACTS];
        private final Row[] changes = new Row[MOST_ACTS];
        private int latest;
        int size;

        Journal() {
            for (int i = 0; i < MOST_ACTS; i++) {
                changes[i] = new Row(MOST_CHANCES);
            }
        }

        void clear() {
            size = 0;
        }

        /** Another act, by which days will be marked. */
        void openMarks() {
            openRule(ACT_MARKS, NONE, NONE);
        }

        /** Another act, on a rule. */
        void openRule(int kind, int rule, int before) {
            latest = (latest + 1) % MOST_ACTS;
            size = Math.min(MOST_ACTS, size + 1);
            kinds[latest] = kind;
            rules[latest] = rule;
            befores[latest] = before;
            changes[latest].clear();
        }

        int latestKind() {
            return kinds[latest];
        }

        int latestRule() {
            return rules[latest];
        }

        int latestBefore() {
            return befores[latest];
        }

        Row latestChanges() {
            return changes[latest];
        }

        void drop() {
            latest = (latest + MOST_ACTS - 1) % MOST_ACTS;
            size = Math.max(0, size - 1);
        }
    }

    /** What was seen of a rule, and the steps by which it is so. */
    private static final class Seen {
        private final Finder finder;
        private final DaySet scratch = new DaySet();
        private final int[] days = new int[MOST_SEEN];
        private final boolean[] held = new boolean[MOST_SEEN];
        private final int[] counts = new int[366];
        private final Row steps = new Row(MOST_FITS);
        private Rule rule;
        private boolean workedOut;
        int size;
        int fitting;
        int tellingDay;
        int tellingLeft;

        Seen(Finder finder) {
            this.finder = finder;
        }

        static boolean isTold(Tape tape) {
            if (tape.size < 3 || tape.size > MOST_SEEN * 3 || tape.size % 3 != 0) {
                return false;
            }
            for (int i = 0; i < tape.size; i += 3) {
                if (!isDay(dayAt(tape, i)) || tape.byteAt(i + 2) > 1) {
                    return false;
                }
            }
            return true;
        }

        private static int dayAt(Tape tape, int i) {
            return tape.byteAt(i) * 256 + tape.byteAt(i + 1);
        }

        void take(Tape tape, Rule of) {
            rule = of;
            size = Math.min(MOST_SEEN, tape.size / 3);
            for (int i = 0; i < size; i++) {
                days[i] = dayAt(tape, i * 3);
                held[i] = tape.byteAt(i * 3 + 2) == 1;
            }
            workedOut = false;
        }

        void clear() {
            rule = null;
            size = 0;
            workedOut = false;
        }

        /** The rule has changed; what was seen of it stays. */
        void forget() {
            workedOut = false;
        }

        int fitAt(int k) {
            return k < 0 || k >= steps.size ? NONE : steps.valueAt(k);
        }

        void workOut() {
            if (workedOut || rule == null) {
                return;
            }
            int year = Almanac.yearOf(days[0]);
            int first = Almanac.firstOfYear(year);
            int length = Math.min(counts.length, Almanac.firstOfYear(year + 1) - first);
            Arrays.fill(counts, 0);
            steps.clear();
            for (int step = 1; step <= MOST_FITS; step++) {
                finder.fill(rule, step, scratch);
                if (isSo()) {
                    steps.append(step);
                    countYear(first, length);
                }
            }
            fitting = steps.size;
            choose(first, length);
            workedOut = true;
        }

        private boolean isSo() {
            for (int i = 0; i < size && i < days.length; i++) {
                if (scratch.holds(days[i]) != held[i]) {
                    return false;
                }
            }
            return true;
        }

        private void countYear(int first, int length) {
            for (int i = 0; i < length; i++) {
                counts[i] += scratch.holds(first + i) ? 1 : 0;
            }
        }

        private void choose(int first, int length) {
            tellingDay = NONE;
            tellingLeft = NONE;
            for (int i = 0; i < length && fitting > 0; i++) {
                int left = Math.max(counts[i], fitting - counts[i]);
                if (tellingDay == NONE || left < tellingLeft) {
                    tellingDay = first + i;
                    tellingLeft = left;
                }
            }
        }
    }
}
