/** Boundary cases of days, periods, and of what rules and sets have as days (terms, II). */
public final class EdgeDaysTest {
    private static final int LAST = 14609;

    public static void main(String[] args) throws ReflectiveOperationException {
        Edges.run(EdgeDaysTest.class);
    }

    private static FeastRules rule(String rest) {
        return Check.made("rule r every " + rest + ";");
    }

    private static int d(int year, int month, int date) {
        return Check.dayOf(year, month, date);
    }

    /** All the days of a rule. */
    private static void days(String rest, int... want) {
        Check.days(rule(rest), 0, want);
    }

    /** All the days of a set. */
    private static void sum(String text, int... want) {
        Check.days(Check.made("rule z every 1 days from 2039-12-29;rule f every 1 days from 2000-1-1 count 3;set s is " + text + ";"), 6, want);
    }

    private static void firstAndLastDay() {
        FeastRules x = new FeastRules();
        Check.due("day 0", x.day(2000, 1, 1), 0);
        Check.due("day 14609", x.day(2039, 12, 31), LAST);
        int[] first = {2000, 1, 1, 5, 1, 31};
        int[] last = {2039, 12, 31, 5, 365, 31};
        for (int of = 0; of < 6; of++) {
            Check.due("date(0, " + of + ")", x.date(0, of), first[of]);
            Check.due("date(14609, " + of + ")", x.date(LAST, of), last[of]);
        }
        FeastRules all = rule("1 days from 2000-1-1");
        Check.due("the first", all.nth(0, 0), 0);
        Check.due("the last", all.nth(0, -1), LAST);
        Check.due("all", all.many(0, 0, LAST), 14610);
    }

    private static void otherDaysThereAreNot() {
        FeastRules x = rule("1 days from 2000-1-1");
        for (int day : new int[] {-1, 14610}) {
            Check.due("date(" + day + ")", x.date(day, 0), -1);
            Check.due("on(" + day + ")", x.on(0, day), -1);
            Check.due("from(" + day + ")", x.from(0, day), false);
            Check.due("see(" + day + ")", Check.see(x, 0, day, 1), -1);
        }
        Check.due("date(0)", x.date(0, 0), 2000);
        Check.due("on(14609)", x.on(0, LAST), 1);
        // A week, a month and a year at the end have no day beyond it.
        Check.due("last week", rule("1 weeks from 2000-1-1 by mon,tue,wed,thu,fri,sat,sun").period(0, LAST, 0), 6);
        Check.due("first week", rule("1 weeks from 2000-1-1 by mon,tue,wed,thu,fri,sat,sun").period(0, 0, 0), 2);
        Check.due("last month", rule("1 months from 2000-1-1 by mon,tue,wed,thu,fri,sat,sun").period(0, LAST, 0), 31);
        Check.due("last year", rule("1 years from 2000-1-1 by mon,tue,wed,thu,fri,sat,sun").period(0, LAST, 0), 365);
    }

    private static void leapYears() {
        FeastRules x = new FeastRules();
        for (int year = 2000; year < 2040; year++) {
            boolean leap = year % 4 == 0;
            Check.due("29th of february " + year, x.day(year, 2, 29) != -1, leap);
            int march = x.day(year, 3, 1);
            Check.due("number of march 1st " + year, x.date(march, 4), leap ? 61 : 60);
            Check.due("days of february " + year, x.date(march - 1, 5), leap ? 29 : 28);
        }
    }

    private static void weeksBeginOnMondays() {
        // 2000-01-02 is a sunday, 2000-01-03 the monday with which the next week begins.
        FeastRules x = rule("2 weeks from 2000-1-2 by sun,mon");
        Check.due("saturday 0", x.period(0, 0, 2), 1);
        Check.due("sunday 1", x.period(0, 1, 2), 1);
        Check.due("monday 2", x.period(0, 2, 2), 0);
        Check.due("sunday 8", x.period(0, 8, 2), 0);
        Check.due("monday 9", x.period(0, 9, 2), 1);
        Check.dates(x, 0, 20000102, 20000110, 20000116, 20000124, 20000130);
    }

    private static void periodOfTheBeginning() {
        FeastRules x = rule("3 days from 2000-2-1");
        int[] days = {30, 31, 32, 33, 34, 35, 37};
        int[] goes = {0, 1, 0, 0, 1, 0, 1};
        for (int i = 0; i < days.length; i++) {
            Check.due("day " + days[i], x.period(0, days[i], 2), goes[i]);
        }
        FeastRules m = rule("99 months from 2000-2-29");
        Check.due("january 2000", m.period(0, 30, 2), 0);
        Check.due("february 2000, its first", m.period(0, 31, 2), 1);
        Check.due("february 2000, its last", m.period(0, 59, 2), 1);
        Check.due("march 2000", m.period(0, 60, 2), 0);
        Check.due("april 2008", m.period(0, d(2008, 4, 30), 2), 0);
        Check.due("may 2008", m.period(0, d(2008, 5, 1), 2), 1);
        Check.due("june 2008", m.period(0, d(2008, 6, 1), 2), 0);
        FeastRules y = rule("39 years from 2000-12-31");
        Check.due("2000", y.period(0, 0, 2), 1);
        Check.due("2038", y.period(0, d(2038, 12, 31), 2), 0);
        Check.due("2039", y.period(0, d(2039, 1, 1), 2), 1);
        Check.days(y, 0, 365, LAST);
        days("40 years from 2000-12-31", 365);
        Check.due("a year ahead", rule("1 years from 2001-1-1").period(0, 365, 2), 0);
    }

    private static void lastPeriod() {
        days("1 days from 2039-12-31", LAST);
        days("1 weeks from 2039-12-31 by mon,sat,sun", LAST);
        days("1 months from 2039-12-31", LAST);
        days("1 years from 2039-12-31", LAST);
        days("99 days from 2039-9-23", LAST - 99, LAST);
        days("99 days from 2039-9-24", LAST - 98);
    }

    private static void aPeriodOfOneDay() {
        // That day alone: it is the first and the last of its period, and there is no second.
        days("5 days from 2039-12-21 at 1", LAST - 10, LAST - 5, LAST);
        days("5 days from 2039-12-21 at -1", LAST - 10, LAST - 5, LAST);
        days("5 days from 2039-12-21 at 2,-2,99,-99");
        FeastRules x = rule("5 days from 2000-1-1 by sat at 2");
        Check.due("a saturday, before", x.period(0, 0, 0), 1);
        Check.due("a saturday, behind", x.period(0, 0, 1), 0);
        Check.due("a sunday, before", x.period(0, 1, 0), 0);
    }

    private static void weeksWithoutBy() {
        days("1 weeks from 2000-1-1 count 2", 0, 7);
        days("1 weeks from 2000-1-2 count 2", 1, 8);
        days("1 weeks from 2000-1-3 count 2", 2, 9);
        days("1 weeks from 2039-12-24", LAST - 7, LAST);
        days("1 weeks from 2039-12-25", LAST - 6);
        // With one weekday told, the beginning's does not count.
        days("1 weeks from 2000-1-1 by sun count 2", 1, 8);
        days("1 weeks from 2000-1-1 by fri count 2", 6, 13);
    }

    private static void datesFromTheEnd() {
        days("1 months from 2000-1-1 on -1 until 2000-4-30", 30, 59, 90, 120);
        days("12 months from 2000-2-1 on -1 until 2004-2-29", 59, d(2001, 2, 28), d(2002, 2, 28), d(2003, 2, 28), d(2004, 2, 29));
        days("1 months from 2000-1-1 on -31 until 2000-6-30", 0, 60, 121);
        days("1 months from 2000-1-1 on -30 until 2000-4-30", 1, 61, 91);
        days("12 months from 2000-2-1 on -29 until 2004-2-29", 31, d(2004, 2, 1));
        days("1 months from 2000-1-1 on 31 until 2000-6-30", 30, 90, 151);
        days("12 months from 2000-2-1 on 29 until 2004-2-29", 59, d(2004, 2, 29));
        days("12 months from 2000-2-1 on 30,31,-30,-31");
        // Each one of a row counts, not the last alone.
        days("99 months from 2000-2-1 on 1,29,15,30 until 2000-2-29", 31, 45, 59);
        days("99 months from 2000-2-1 on -1,-29,-15,-30 until 2000-2-29", 31, 45, 59);
    }

    private static void datesWithWeekdays() {
        // 2000-10-13 is the second friday of its month; the place of by does not count beside on.
        days("1 months from 2000-1-1 on 13 by fri until 2001-4-13", d(2000, 10, 13), d(2001, 4, 13));
        days("1 months from 2000-1-1 on 13 by 5 fri until 2001-4-13", d(2000, 10, 13), d(2001, 4, 13));
        days("1 months from 2000-1-1 on 13 by -53 fri,53 fri until 2001-4-13", d(2000, 10, 13), d(2001, 4, 13));
        days("1 years from 2000-1-1 on 13 by 53 fri until 2001-4-13", d(2000, 10, 13), d(2001, 4, 13));
    }

    private static void placesInAMonth() {
        // February 2000 has five tuesdays (1st .. 29th) and four mondays.
        String rule = "99 months from 2000-2-1 until 2000-2-29 by ";
        days(rule + "5 tue", 59);
        days(rule + "-5 tue", 31);
        days(rule + "6 tue");
        days(rule + "-6 tue");
        days(rule + "4 mon", 58);
        days(rule + "-4 mon", 37);
        days(rule + "5 mon");
        days(rule + "-5 mon");
        days(rule + "1 tue,-1 tue", 31, 59);
        days(rule + "53 tue,-53 mon");
    }

    private static void beginningsDate() {
        days("1 months from 2000-1-31 until 2000-6-30", 30, 90, 151);
        days("1 months from 2000-1-30 until 2000-4-30", 29, 89, 120);
        days("1 months from 2001-1-29 until 2001-3-31", d(2001, 1, 29), d(2001, 3, 29));
        days("1 months from 2000-1-29 until 2000-3-31", 28, 59, 88);
        days("12 months from 2000-2-29", 59, d(2004, 2, 29), d(2008, 2, 29), d(2012, 2, 29), d(2016, 2, 29), d(2020, 2, 29),
            d(2024, 2, 29), d(2028, 2, 29), d(2032, 2, 29), d(2036, 2, 29));
    }

    private static void yearsWithMonths() {
        days("1 years from 2000-1-31 in 1,2,3,4 until 2000-12-31", 30, 90);
        days("1 years from 2000-1-1 in 2 on 29 until 2008-12-31", 59, d(2004, 2, 29), d(2008, 2, 29));
        days("1 years from 2000-1-1 in 2 by 5 tue until 2027-12-31", 59);
        days("1 years from 2000-1-1 in 2 by 6 tue");
        days("1 years from 2000-1-1 in 12 on -1 until 2001-12-30", 365);
    }

    private static void yearsWithDates() {
        Check.due("on 31", rule("1 years from 2000-1-1 on 31").period(0, 0, 0), 7);
        Check.due("on 30", rule("1 years from 2000-1-1 on 30").period(0, 0, 0), 11);
        Check.due("on 29, a leap year", rule("1 years from 2000-1-1 on 29").period(0, 365, 0), 12);
        Check.due("on 29, a common year", rule("1 years from 2000-1-1 on 29").period(0, 366, 0), 11);
        Check.due("on -31", rule("1 years from 2000-1-1 on -31").period(0, 366, 0), 7);
    }

    private static void placesInAYear() {
        // 2000 begins on a saturday and ends on a sunday: 53 of both; 2001 has 53 mondays alone.
        String rule = "99 years from 2000-1-1 by ";
        days(rule + "53 sat", d(2000, 12, 30));
        days(rule + "-53 sat", 0);
        days(rule + "53 sun", 365);
        days(rule + "-53 sun", 1);
        days(rule + "53 mon");
        days(rule + "52 mon", d(2000, 12, 25));
        days(rule + "-52 mon", 2);
        days("1 years from 2001-1-1 by 53 mon,53 sun,-53 tue until 2001-12-31", d(2001, 12, 31));
        days("99 years from 2001-1-1 by -53 mon,-53 sun,-1 sun", d(2001, 1, 1), d(2001, 12, 30));
        days("99 years from 2039-1-1 by -1 sat,-52 sun,-53 sun,-53 sat,53 fri", d(2039, 1, 1), d(2039, 1, 2), LAST);
    }

    private static void beginningsMonthAndDate() {
        days("1 years from 2000-2-29 until 2008-12-31", 59, d(2004, 2, 29), d(2008, 2, 29));
        days("1 years from 2001-2-28 until 2004-12-31", d(2001, 2, 28), d(2002, 2, 28), d(2003, 2, 28), d(2004, 2, 28));
        days("2 years from 2002-2-28 at 1 until 2004-12-31", d(2002, 2, 28), d(2004, 2, 28));
        days("1 years from 2039-12-31", LAST);
        // Every other year behind a leap year: each second period has none.
        days("2 years from 2000-2-29 until 2006-12-31", 59, d(2004, 2, 29));
    }

    private static void monthsTold() {
        // The week from 2000-01-31 to 2000-02-06 lies in two months.
        days("99 weeks from 2000-1-31 by mon,tue in 1 until 2000-2-6", 30);
        days("99 weeks from 2000-1-31 by mon,tue in 2 until 2000-2-6", 31);
        days("1 days from 2000-1-1 in 2 until 2000-3-31 count 2", 31, 32);
        Check.due("february 2000", rule("1 days from 2000-1-1 in 2 until 2000-12-31").many(0, 0, LAST), 29);
        Check.due("its last", rule("1 days from 2000-1-1 in 2 until 2000-12-31").nth(0, -1), 59);
        days("1 months from 2000-1-15 in 12,1 until 2001-1-31", 14, d(2000, 12, 15), d(2001, 1, 15));
        // Places are taken among what the months leave: the tuesday is the first one in february.
        days("99 weeks from 2000-1-31 by mon,tue in 2 at 1 until 2000-2-6", 31);
        days("99 weeks from 2000-1-31 by mon,tue in 1 at -1 until 2000-2-6", 30);
    }

    private static void datesTold() {
        days("1 days from 2000-1-1 on 31,-31 until 2000-4-30", 0, 30, 60, 90);
        days("1 weeks from 2000-1-1 by sat,sun on 1,-1 until 2000-12-31", 0, d(2000, 4, 1), d(2000, 4, 30), d(2000, 7, 1), d(2000, 9, 30),
            d(2000, 10, 1), d(2000, 12, 31));
        days("1 weeks from 2000-1-1 on 29 until 2000-12-31", 28, d(2000, 4, 29), d(2000, 7, 29));
        // Places are taken among what the dates leave.
        days("99 weeks from 2000-1-3 by mon,tue,wed on 4,5 at 1 until 2000-1-9", 3);
        days("99 months from 2000-1-1 on 1,2,3 by sun,mon at 1 until 2000-1-31", 1);
    }

    private static void weekdaysOfDays() {
        days("1 days from 2000-1-1 by sun,mon until 2000-1-10", 1, 2, 8, 9);
        days("7 days from 2000-1-1 by sun");
        days("7 days from 2000-1-1 by sat count 2", 0, 7);
    }

    private static void noneTwice() {
        days("1 months from 2000-1-1 on 31,-1,30,-2 until 2000-2-29", 29, 30, 58, 59);
        days("99 months from 2000-2-1 by tue,1 tue,-5 tue until 2000-2-29", 31, 38, 45, 52, 59);
        FeastRules x = rule("1 months from 2000-1-1 on 31,-1 at 1,-1");
        Check.due("january, before", x.period(0, 0, 0), 1);
        Check.due("january, behind", x.period(0, 0, 1), 1);
        // Rising: the places of at count along the days, not along the text.
        days("1 months from 2000-1-1 on 20,10 at 1 until 2000-1-31", 9);
        days("1 months from 2000-1-1 by fri,mon at 1,-1 until 2000-1-31", 2, 30);
    }

    private static void placesOfAt() {
        // January 2000 has five mondays: days 2, 9, 16, 23, 30.
        String rule = "99 months from 2000-1-1 by mon until 2000-1-31 at ";
        days(rule + "1", 2);
        days(rule + "5", 30);
        days(rule + "6");
        days(rule + "-1", 30);
        days(rule + "-5", 2);
        days(rule + "-6");
        days(rule + "5,-5", 2, 30);
        days(rule + "3,-3", 16);
        days(rule + "99,-99");
        FeastRules year = rule("99 years from 2000-1-1 by mon,tue,wed,thu,fri,sat,sun until 2000-12-31 at 99,-99");
        Check.days(year, 0, 98, 366 - 99);
        Check.due("before", year.period(0, 0, 0), 366);
        Check.due("behind", year.period(0, 0, 1), 2);
    }

    private static void notAheadOfTheBeginning() {
        days("99 months from 2000-1-16 by mon until 2000-1-31", 16, 23, 30);
        days("99 months from 2000-1-17 by mon until 2000-1-31", 16, 23, 30);
        days("99 months from 2000-1-18 by mon until 2000-1-31", 23, 30);
        // The places are taken among all that the period has, also ahead of the beginning.
        days("99 months from 2000-1-17 by mon until 2000-1-31 at 3,4", 16, 23);
        days("99 months from 2000-1-18 by mon until 2000-1-31 at 3,4", 23);
    }

    private static void notBehindUntil() {
        days("1 days from 2000-1-5 until 2000-1-6", 4, 5);
        days("1 days from 2000-1-5 until 2000-1-5", 4);
        days("1 days from 2000-1-5 until 2000-1-4");
        days("99 months from 2000-1-1 by mon until 2000-1-24", 2, 9, 16, 23);
        days("99 months from 2000-1-1 by mon until 2000-1-23", 2, 9, 16);
        days("99 months from 2000-1-1 by mon until 2000-1-23 at -1");
        Check.due("until the last day", rule("1 days from 2000-1-1 until 2039-12-31").many(0, 0, LAST), 14610);
        Check.due("until the day ahead", rule("1 days from 2000-1-1 until 2039-12-30").many(0, 0, LAST), LAST);
        days("1 days from 2000-1-1 until 2000-1-1", 0);
    }

    private static void firstCount() {
        days("1 days from 2000-1-5 count 1", 4);
        days("1 days from 2000-1-5 count 2", 4, 5);
        // Three days there are: count 3 and count 4 leave them, count 2 does not.
        days("5 days from 2000-1-1 until 2000-1-15 count 2", 0, 5);
        days("5 days from 2000-1-1 until 2000-1-15 count 3", 0, 5, 10);
        days("5 days from 2000-1-1 until 2000-1-15 count 4", 0, 5, 10);
        // Those ahead of the beginning do not count.
        days("99 months from 2000-1-18 by mon count 1", 23);
        FeastRules most = rule("1 days from 2000-1-1 count 999");
        Check.due("count 999", most.many(0, 0, LAST), 999);
        Check.due("the last of them", most.nth(0, -1), 998);
        Check.due("behind it", most.on(0, 999), 0);
    }

    private static void laterAndSooner() {
        sum("day 2039-12-30,2039-12-31 later 1", LAST);
        sum("day 2039-12-31 later 1");
        sum("day 2000-1-1,2000-1-2 sooner 1", 0);
        sum("day 2000-1-1 sooner 1");
        sum("day 2039-9-23,2039-9-24 later 99", LAST);
        sum("day 2000-4-8,2000-4-9,2000-4-10 sooner 99", 0, 1);
        // What went beyond an end does not come back.
        sum("day 2039-12-30,2039-12-31 later 1 sooner 1", LAST - 1);
        sum("day 2000-1-1,2000-1-2 sooner 1 later 1", 1);
        for (int n : new int[] {1, 2, 62, 63, 64, 65, 98, 99}) {
            sum("day 2000-1-1,2000-3-4,2000-3-5,2000-5-7,2000-5-8,2000-5-9 later " + n, n, n + 63, n + 64, n + 127, n + 128, n + 129);
            sum("day 2000-4-9,2000-5-7,2000-5-8,2000-7-10,2000-7-11,2039-12-31 sooner " + n, 99 - n, 127 - n, 128 - n, 191 - n, 192 - n, LAST - n);
        }
    }

    private static void offANamesDays() {
        sum("day 2000-1-1 off f", 3);
        sum("day 2000-1-3 off f", 3);
        sum("day 2000-1-4 off f", 3);
        sum("day 2000-1-1,2000-1-2,2000-1-3,2000-1-4 off f", 3);
        sum("day 2039-12-28 off z", LAST - 3);
        sum("day 2039-12-29 off z");
        sum("day 2039-12-31,2000-1-5 off z", 4);
        sum("f off f", 3);
        // Each one that is of it, not the first alone; from one word of bits into the next.
        sum("(f or f later 61 or f later 99 or day 2000-3-1)off f", 3, 60, 61, 62, 63, 99, 100, 101);
        FeastRules off = Check.made("rule b every 7 weeks from 2000-1-1 by sat,sun count 6;set s is b off b;set t is day 2000-1-1,2000-2-19,2000-2-21 off b;");
        Check.days(off, 6, 2, 51, 100);
        Check.days(off, 7, 2, 51);
        // Of the one ahead of it alone, not of all that was put together so far.
        sum("day 2000-1-9 or day 2000-1-1 off f", 3, 8);
        sum("day 2000-1-1 or day 2000-1-3 off f", 0, 3);
        // Whole: there is no day that is not of it.
        FeastRules all = Check.made("rule w every 1 days from 2000-1-1;set s is day 2000-1-1 off w;set n is w less w;set t is w off n;");
        Check.days(all, 6);
        Check.due("off an empty one", all.many(8, 0, LAST), 14610);
    }

    private static void eitherBothWithout() {
        FeastRules x = Check.made("set e is day 2000-1-1 less day 2000-1-1;set a is day 2000-1-1,2039-12-31;set o is a or e;set n is a and e;"
            + "set l is a less e;set m is e less a;");
        Check.days(x, 6);
        Check.days(x, 8, 0, LAST);
        Check.days(x, 9);
        Check.days(x, 10, 0, LAST);
        Check.days(x, 11);
        // Two that have some days alike, and each one some that the other has not.
        String two = "set a is day 2000-1-1,2000-1-2,2039-12-30;set b is day 2000-1-2,2039-12-30,2039-12-31;";
        FeastRules y = Check.made(two + "set o is a or b;set n is a and b;set l is a less b;set m is b less a;");
        Check.days(y, 8, 0, 1, LAST - 1, LAST);
        Check.days(y, 9, 1, LAST - 1);
        Check.days(y, 10, 0);
        Check.days(y, 11, LAST);
    }

    private static void setsToldBehind() {
        FeastRules x = Check.made("set a is day 2000-1-1;set b is a later 1;set c is b or a;set d is day 2000-1-9 off c;");
        Check.due("add", x.add(0, 8), true);
        Check.days(x, 6, 0, 8);
        Check.days(x, 7, 1, 9);
        Check.days(x, 8, 0, 1, 8, 9);
        Check.days(x, 9, 10);
        Check.due("leave", x.leave(1, 9), true);
        Check.days(x, 6, 0, 8);
        Check.days(x, 8, 0, 1, 8);
        Check.days(x, 9, 9);
        Check.due("leave", x.leave(3, 9), true);
        Check.days(x, 9);
        Check.days(x, 8, 0, 1, 8);
    }
}
