import java.time.DayOfWeek;
import java.time.LocalDate;
import java.time.temporal.ChronoUnit;
import java.time.temporal.TemporalAdjusters;
import java.util.ArrayList;
import java.util.List;
import java.util.Set;
import java.util.TreeSet;
import java.util.function.Predicate;

/** The sentences of the document that name no boundary case, one method each, as SENTENCES.md lists them. */
public final class SentenceTest {
    private static final int DAYS = 14610;
    private static final int LAST = 14609;
    private static final LocalDate ZERO = LocalDate.of(2000, 1, 1);
    // With the calls that feed a text, below the 512 that an object is good for.
    private static final int CHUNK = 400;

    private static final String FEASTS = "rule board every 2 weeks from 2000-1-3 by mon, thu until 2004-12-31;\n"
        + "rule thank every 1 years from 2000-1-1 in 11 by 4 thu;\n"
        + "rule black every 1 months from 2000-1-1 on 13 by fri;\n"
        + "rule wages every 1 months from 2000-1-1 by mon, tue, wed, thu, fri at -1;\n"
        + "rule leap every 4 years from 2000-2-29 count 5;\n"
        + "rule tens every 10 days from 2000-1-1 in 6, 7 by sat, sun;\n"
        + "set hols is thank or day 2000-12-25, 2000-12-29;\n"
        + "set paid is wages off hols;\n"
        + "set quiet is ( board or black ) less hols;\n"
        + "set eves is hols sooner 1;\n"
        + "set twin is board and black;\n"
        + "set behind is leap later 60;\n";

    public static void main(String[] args) throws ReflectiveOperationException {
        Edges.run(SentenceTest.class);
    }

    private static LocalDate dated(int day) {
        return ZERO.plusDays(day);
    }

    private static int number(LocalDate date) {
        return (int) ChronoUnit.DAYS.between(ZERO, date);
    }

    private static Set<Integer> all(Predicate<LocalDate> wanted) {
        Set<Integer> days = new TreeSet<>();
        for (int day = 0; day < DAYS; day++) {
            if (wanted.test(dated(day))) {
                days.add(day);
            }
        }
        return days;
    }

    /** Each day of the forty years is asked for, each object for a part of them. */
    private static void same(String text, int what, Set<Integer> want) {
        for (int first = 0; first < DAYS; first += CHUNK) {
            FeastRules x = Check.made(text);
            for (int day = first; day < Math.min(DAYS, first + CHUNK); day++) {
                Check.due("on(" + what + ", " + day + ")", x.on(what, day), want.contains(day) ? 1 : 0);
            }
        }
    }

    private static boolean isBoard(LocalDate d) {
        long weeks = ChronoUnit.DAYS.between(LocalDate.of(2000, 1, 3), d.with(TemporalAdjusters.previousOrSame(DayOfWeek.MONDAY))) / 7;
        boolean weekday = d.getDayOfWeek() == DayOfWeek.MONDAY || d.getDayOfWeek() == DayOfWeek.THURSDAY;
        return weekday && weeks % 2 == 0 && number(d) >= 2 && d.getYear() <= 2004;
    }

    private static boolean isThank(LocalDate d) {
        return d.equals(LocalDate.of(d.getYear(), 11, 1).with(TemporalAdjusters.dayOfWeekInMonth(4, DayOfWeek.THURSDAY)));
    }

    private static boolean isBlack(LocalDate d) {
        return d.getDayOfMonth() == 13 && d.getDayOfWeek() == DayOfWeek.FRIDAY;
    }

    private static boolean isWages(LocalDate d) {
        LocalDate last = d.with(TemporalAdjusters.lastDayOfMonth());
        while (last.getDayOfWeek().getValue() > 5) {
            last = last.minusDays(1);
        }
        return d.equals(last);
    }

    private static boolean isTens(LocalDate d) {
        return number(d) % 10 == 0 && (d.getMonthValue() == 6 || d.getMonthValue() == 7) && d.getDayOfWeek().getValue() > 5;
    }

    private static void meetingsThatRecur() {
        Check.due("statements", Check.book(new FeastRules(), FEASTS), 12);
        Set<Integer> leaps = new TreeSet<>();
        Set<Integer> behind = new TreeSet<>();
        for (int year = 2000; year <= 2016; year += 4) {
            leaps.add(number(LocalDate.of(year, 2, 29)));
            behind.add(number(LocalDate.of(year, 4, 29)));
        }
        Set<Integer> hols = all(SentenceTest::isThank);
        hols.add(number(LocalDate.of(2000, 12, 25)));
        hols.add(number(LocalDate.of(2000, 12, 29)));
        Set<Integer> paid = all(SentenceTest::isWages);
        // 2000-12-29, a friday, is a day of wages that is moved; no other one is.
        paid.remove(number(LocalDate.of(2000, 12, 29)));
        paid.add(number(LocalDate.of(2000, 12, 30)));
        same(FEASTS, 0, all(SentenceTest::isBoard));
        same(FEASTS, 1, all(SentenceTest::isThank));
        same(FEASTS, 2, all(SentenceTest::isBlack));
        same(FEASTS, 3, all(SentenceTest::isWages));
        same(FEASTS, 4, leaps);
        same(FEASTS, 5, all(SentenceTest::isTens));
        same(FEASTS, 6, hols);
        same(FEASTS, 7, paid);
        same(FEASTS, 8, all(d -> (isBoard(d) || isBlack(d)) && !hols.contains(number(d))));
        same(FEASTS, 9, all(d -> hols.contains(number(d) + 1)));
        same(FEASTS, 10, all(d -> isBoard(d) && isBlack(d)));
        same(FEASTS, 11, behind);
    }

    private static void allThatIsAsked() {
        FeastRules x = Check.made("rule a every 3 days from 2000-1-2 count 5;set s is a or day 2000-1-31;");
        Check.due("days and dates", x.day(2000, 1, 31), 30);
        Check.due("days and dates", x.date(30, 2), 31);
        Check.due("whether a day is in a rule", x.on(0, 4), 1);
        Check.due("a set", x.on(6, 30), 1);
        Check.due("the next one", x.next(0, 4), 7);
        Check.due("the one ahead", x.ahead(0, 4), 1);
        Check.due("the k-th", x.nth(0, 3), 10);
        Check.due("how many between", x.many(0, 2, 10), 3);
        Check.due("the longest gap", x.gap(6, 0), 17);
        Check.due("the first free row of days", x.free(6, 0, 3), 14);
        Check.due("two sets meet", x.meet(0, 6, 2, 0), 4);
        Check.due("on which they differ", x.meet(0, 6, 2, 1), 30);
        Check.due("what a period has", x.period(0, 4, 0), 1);
        // 1, 4, 7, 10, 13 are a sunday, wednesday, saturday, tuesday, friday.
        Check.due("how each day of the week fares", x.fares(0, 1), 1);
        Check.due("how each day of the week fares", x.fares(0, 0), 0);
        Check.see(x, 0, 7, 1, 3, 0);
        Check.due("which step explains what was seen", x.fits(0), 1 + 2);
        Check.due("the day that tells most", x.tells(0), 4);
        Check.due("days added", x.add(0, 2), true);
        Check.due("left out by hand", x.leave(0, 1), true);
        Check.due("another step", x.every(0, 4), true);
        Check.due("another beginning", x.from(0, 3), true);
        Check.due("by the seed", x.chance(3), 3);
        for (int i = 0; i < 5; i++) {
            Check.due("acts undone", x.undo(), true);
        }
        Check.days(x, 6, 1, 4, 7, 10, 13, 30);
    }

    private static void weekdaysWithAndWithoutPlaces() {
        for (String row : List.of("mon", "1 mon", "-1 mon", "mon,tue", "mon,2 mon,-1 mon", "1 mon,1 tue,sun", "- 5 sun , 5 sun")) {
            Texts.right(1, Texts.M + " by " + row + ";");
        }
        Texts.fault(1, Texts.M + " by ^;");
        Texts.fault(1, Texts.M + " by 1 ^;");
        Texts.fault(1, Texts.M + " by 1^,2 mon;");
        Texts.fault(1, Texts.M + " by mon ^1;");
        Texts.fault(1, Texts.M + " by mon ^tue;");
        Texts.fault(1, Texts.M + " by mon,^;");
        Texts.fault(1, Texts.M + " by 1^mon;");
        Texts.fault(1, Texts.M + " by -^mon;");
        Texts.fault(1, Texts.M + " by 1 ^2 mon;");
        Check.days(Check.made(Texts.M + " by 1 mon,-1 fri count 4;"), 0, 2, 27, 37, 55);
        Check.days(Check.made(Texts.M + " by 1 mon,fri until 2000-1-31;"), 0, 2, 6, 13, 20, 27);
    }

    private static FeastRules summed(String sum) {
        return Check.made("rule a every 1 days from 2000-1-1 count 2;rule b every 1 days from 2000-1-4 count 1;set s is " + sum + ";");
    }

    private static void whatASumBeginsWith() {
        Check.days(summed("a"), 6, 0, 1);
        Check.days(summed("(a)"), 6, 0, 1);
        Check.days(summed("((a or b))"), 6, 0, 1, 3);
        Check.days(summed("a or b later 1"), 6, 0, 1, 4);
        Check.days(summed("(a or b) later 1"), 6, 1, 2, 4);
        Check.days(summed("a less (b or a)"), 6);
        Check.days(summed("day 2000-1-9"), 6, 8);
        Check.days(summed("(day 2000-1-9,2000-1-7)or(b)"), 6, 3, 6, 8);
        Texts.fault(1, Texts.S + "(^);");
        Texts.fault(1, Texts.S + "(a^;");
        Texts.fault(1, Texts.S + "(a^");
        Texts.fault(1, Texts.S + "a^);");
        Texts.fault(1, Texts.S + "a ^(a);");
        Texts.fault(1, Texts.S + "^5;");
        Texts.fault(1, Texts.S + "day ^a;");
    }

    private static void daysAreNumbers() {
        int day = 0;
        for (int year = 2000; year < 2040; year++) {
            FeastRules x = new FeastRules();
            for (LocalDate d = LocalDate.of(year, 1, 1); d.getYear() == year; d = d.plusDays(1)) {
                Check.due("day of " + d, x.day(year, d.getMonthValue(), d.getDayOfMonth()), day);
                day++;
            }
        }
        Check.due("so many", day, DAYS);
    }

    private static long periodsBehind(int unit, LocalDate begin, LocalDate d) {
        switch (unit) {
            case 0: return ChronoUnit.DAYS.between(begin, d);
            case 1: return ChronoUnit.WEEKS.between(begin.with(DayOfWeek.MONDAY), d.with(DayOfWeek.MONDAY));
            case 2: return (d.getYear() - begin.getYear()) * 12L + d.getMonthValue() - begin.getMonthValue();
            default: return d.getYear() - begin.getYear();
        }
    }

    private static void periodsOfEachUnit() {
        LocalDate begin = LocalDate.of(2003, 5, 14);
        String[] units = {"days", "weeks", "months", "years"};
        for (int unit = 0; unit < 4; unit++) {
            for (int first = 0; first < DAYS; first += CHUNK) {
                FeastRules x = Check.made("rule a every 3 " + units[unit] + " from 2003-5-14;");
                for (int day = first; day < Math.min(DAYS, first + CHUNK); day++) {
                    long behind = periodsBehind(unit, begin, dated(day));
                    Check.due(units[unit] + ", day " + day, x.period(0, day, 2), behind >= 0 && behind % 3 == 0 ? 1 : 0);
                }
            }
        }
    }

    private static void weekdaysOfAMonth() {
        String text = "rule a every 1 months from 2000-1-1 by mon, wed;";
        same(text, 0, all(d -> d.getDayOfWeek() == DayOfWeek.MONDAY || d.getDayOfWeek() == DayOfWeek.WEDNESDAY));
        FeastRules x = Check.made(text);
        // February 2000 has four mondays and four wednesdays, may 2000 five of each.
        Check.due("february", x.period(0, 31, 0), 8);
        Check.due("may", x.period(0, 121, 0), 10);
    }

    private static void placesAheadOfTheEnds() {
        String monday = "rule a every 1 months from 2000-1-10 by mon ";
        // January's first monday lies ahead of the beginning, and the second one does not come in its place.
        Check.days(Check.made(monday + "at 1 count 2;"), 0, 37, 65);
        Check.days(Check.made(monday + "at 2 count 2;"), 0, 9, 44);
        // Likewise its last one behind until.
        Check.days(Check.made(monday + "at -1 until 2000-1-30;"), 0);
        Check.days(Check.made(monday + "at -1 until 2000-1-31;"), 0, 30);
        // What lies ahead of the beginning or behind until does not count.
        Check.days(Check.made(monday + "count 3;"), 0, 9, 16, 23);
        Check.days(Check.made(monday + "count 3 until 2000-1-18;"), 0, 9, 16);
        FeastRules x = Check.made(monday + "at 1 until 2000-1-30;");
        Check.due("january before", x.period(0, 9, 0), 5);
        Check.due("january behind", x.period(0, 9, 1), 1);
    }

    private static void daysOfNamesAndDaysTold() {
        FeastRules x = Check.made("rule a every 5 days from 2000-1-3 count 3;set s is a;set t is s;set u is day 2039-12-31,2000-1-1,2000-3-1;");
        Check.days(x, 0, 2, 7, 12);
        Check.days(x, 6, 2, 7, 12);
        Check.days(x, 7, 2, 7, 12);
        Check.days(x, 8, 0, 60, LAST);
    }

    private static void addedAndLeftOutBehindThat() {
        FeastRules x = Check.made("rule a every 1 days from 2000-1-1 count 3;set s is a later 1;set t is s later 1;set u is a off s;");
        Check.days(x, 6, 1, 2, 3);
        Check.due("add", x.add(0, 10), true);
        Check.due("leave", x.leave(0, 2), true);
        // As they are: the day that was told is in it, not the one behind it.
        Check.days(x, 6, 1, 3, 10);
        Check.days(x, 7, 2, 4, 11);
        // Day 1 is moved to 2, which is of s no more and of a itself.
        Check.days(x, 8, 0, 2);
        Check.due("add to u what s has", x.add(2, 10), true);
        Check.days(x, 8, 0, 2, 10);
    }

    private static void anotherStep() {
        FeastRules x = Check.made("rule a every 2 days from 2000-1-3 in 1 on 3,9,15,21,-1 by mon,fri at 1 until 2000-1-31 count 9;set s is a;");
        // 3rd monday, 15th saturday, 21st friday, 9th sunday, 31st monday; by twos from the 3rd on all of them are.
        Check.days(x, 6, 2, 20, 30);
        int[] made = new int[9];
        for (int what = 0; what < 9; what++) {
            made[what] = x.rule(0, what);
        }
        Check.due("every(0, 4)", x.every(0, 4), true);
        Check.due("N", x.rule(0, 0), 4);
        for (int what = 1; what < 9; what++) {
            Check.due("as it was: " + what, x.rule(0, what), made[what]);
        }
        // The 3rd, 7th, 11th, 15th .. 31st: the 21st is none of them.
        Check.days(x, 0, 2, 30);
        Check.days(x, 6, 2, 30);
    }

    private static void drawsOfSetsAndDays() {
        for (int seed : new int[] {0, 1, 2026, Integer.MAX_VALUE}) {
            FeastRules x = Check.made("set a is day 2000-1-1;set b is day 2000-1-1;set c is day 2000-1-1;");
            Check.due("seed", x.seed(seed), true);
            List<Set<Integer>> sets = new ArrayList<>();
            for (int i = 0; i < 3; i++) {
                sets.add(new TreeSet<>(Set.of(0)));
            }
            long state = seed;
            // Twenty draws, so that no set can be full.
            for (int i = 0; i < 20; i++) {
                state = (1103515245L * state + 12345L) % (1L << 31);
                int set = (int) (state / 64 % 3);
                state = (1103515245L * state + 12345L) % (1L << 31);
                int day = (int) (state / 64 % DAYS);
                if (!sets.get(set).remove(day)) {
                    sets.get(set).add(day);
                }
            }
            Check.due("chance", x.chance(20), 20);
            for (int i = 0; i < 3; i++) {
                int[] want = sets.get(i).stream().mapToInt(Integer::intValue).toArray();
                Check.days(x, 6 + i, want);
            }
        }
    }

    private static void daysFromOneToTheOther() {
        Check.due("side by side", Check.made("set a is day 2000-1-4,2000-1-5;").gap(6, 0), 1);
        Check.due("four", Check.made("set a is day 2000-1-4,2000-1-8;").gap(6, 0), 4);
        Check.due("over a leap day", Check.made("set a is day 2000-2-28,2000-3-1;").gap(6, 0), 2);
        Check.due("from the first to the last", Check.made("set a is day 2000-1-1,2039-12-31;").gap(6, 0), LAST);
    }

    private static void told(String rest, int... want) {
        FeastRules x = Check.made("rule z every 9 years from 2039-1-1;rule a every " + rest + ";");
        for (int what = 0; what < want.length; what++) {
            Check.due("rule(1, " + what + ") of " + rest, x.rule(1, what), want[what]);
        }
    }

    private static void whatARuleIsMadeOf() {
        told("1 days from 2000-1-1", 1, 0, 0, 0, 0, 0, 0, -1, -1);
        told("2 weeks from 2000-1-3 by mon,thu", 2, 1, 2, 0, 0, 2, 0, -1, -1);
        told("3 months from 2000-2-29 on 1,15,-1 at 1", 3, 2, 59, 0, 3, 0, 1, -1, -1);
        told("99 years from 2039-12-31 in 1,12", 99, 3, LAST, 1 << 1 | 1 << 12, 0, 0, 0, -1, -1);
        told("4 months from 2000-1-1 count 7 until 2000-3-1 at 1,-1,2,-2 by mon,1 mon,-1 mon,5 sun on 2 in 3,2",
            4, 2, 0, 1 << 2 | 1 << 3, 1, 4, 4, 60, 7);
    }

    private static void whatADayIs() {
        for (int first = 0; first < DAYS; first += 90) {
            FeastRules x = new FeastRules();
            for (int day = first; day < Math.min(DAYS, first + 90); day++) {
                LocalDate d = dated(day);
                int[] want = {d.getYear(), d.getMonthValue(), d.getDayOfMonth(), d.getDayOfWeek().getValue() - 1, d.getDayOfYear()};
                for (int of = 0; of < 5; of++) {
                    Check.due("date(" + day + ", " + of + ")", x.date(day, of), want[of]);
                }
            }
        }
    }

    private static void sumByPlaces() {
        Check.due("none", Check.made("rule a every 1 days from 2000-1-2 until 2000-1-1;").sum(0), 0);
        Check.due("day 0", Check.made("set a is day 2000-1-1;").sum(6), 0);
        Check.due("1 and 2", Check.made("set a is day 2000-1-2,2000-1-3;").sum(6), 1 * 1 + 2 * 2);
        Check.due("3, 5, 14609", Check.made("set a is day 2039-12-31,2000-1-4,2000-1-6;").sum(6), 1 * 3 + 2 * 5 + 3 * LAST);
        long all = 0;
        for (long day = 0; day < DAYS; day++) {
            all += (day + 1) * day;
        }
        Check.due("all days", Check.made("rule a every 1 days from 2000-1-1;").sum(0), all % 1000003);
    }

    private static void ask(FeastRules x, int a, int b) {
        x.fault(a);
        x.has(a);
        x.letter(a, b);
        x.rule(a, b);
        x.day(2000 + a, 1 + b, 1);
        x.date(a, b);
        x.on(a, b);
        x.next(a, b);
        x.ahead(a, b);
        x.nth(a, b);
        x.many(a, b, 100);
        x.gap(a, b);
        x.free(a, b, 2);
        x.meet(a, 6, b, 1);
        x.fares(a, b);
        x.period(a, b, 1);
        x.sum(a);
        x.fits(b);
        x.tells(b);
        x.status(a);
    }

    private static void askingChangesNothing() {
        for (int a : new int[] {-1, 0, 1, 2, 6, 7, 8, Integer.MAX_VALUE}) {
            FeastRules x = Refusal.used();
            FeastRules twin = Refusal.used();
            for (int b : new int[] {Integer.MIN_VALUE, -1, 0, 1, 5, 14609, 14610}) {
                ask(x, a, b);
            }
            Check.due("all stays, asked of " + a, Refusal.state(x).equals(Refusal.state(twin)), true);
            for (int what = 0; what < 6; what++) {
                Check.due("status(" + what + ")", x.status(what), twin.status(what));
            }
            Check.due("the tape", x.feed(0, 0, 0, 0, 0), twin.feed(0, 0, 0, 0, 0));
            Check.due("fault", x.fault(0) * 10000 + x.fault(1), twin.fault(0) * 10000 + twin.fault(1));
            Check.due("chance", x.chance(7), twin.chance(7));
            Check.due("all stays behind chance", Refusal.state(x).equals(Refusal.state(twin)), true);
        }
    }
}
