/** Boundary cases of promises 11 to 21: what is when; and of WHAT and GAP (terms, III). */
public final class EdgeAskTest {
    private static final int MIN = Integer.MIN_VALUE;
    private static final int MAX = Integer.MAX_VALUE;
    private static final int LAST = 14609;
    private static final int[] NO_DAYS = {MIN, -1, 14610, MAX};
    // Two rules, then sets: both ends, one day, none, all days, days in a cluster.
    private static final String BOOK = "rule r every 1 days from 2000-1-1;rule q every 10 days from 2000-1-5 until 2000-2-3;"
        + "set e is day 2000-1-1,2039-12-31;set o is day 2000-1-3;set n is o less o;set a is r;"
        + "set c is day 2000-1-3,2000-1-5,2000-1-9,2000-1-13,2000-1-14;";
    private static final int ENDS = 6;
    private static final int ONE = 7;
    private static final int EMPTY = 8;
    private static final int ALL = 9;
    private static final int CLUSTER = 10;
    private static final int[] NO_WHATS = {MIN, -1, 2, 5, 11, 12, MAX};

    public static void main(String[] args) throws ReflectiveOperationException {
        Edges.run(EdgeAskTest.class);
    }

    private static FeastRules book() {
        return Check.made(BOOK);
    }

    private static void whatIsRulesThenSets() {
        FeastRules x = Check.made("set sa is day 2000-1-11;" + Texts.rules(5) + "rule f every 1 days from 2000-1-7;"
            + "set sb is day 2000-1-12;set sc is sa;set sd is sa;set se is sa;set sf is day 2000-1-16;");
        Check.due("first rule", x.nth(0, 0), 0);
        Check.due("last rule", x.nth(5, 0), 6);
        Check.due("first set", x.nth(6, 0), 10);
        Check.due("second set", x.nth(7, 0), 11);
        Check.due("last set", x.nth(11, 0), 15);
        Check.due("behind it", x.nth(12, 0), -1);
        Check.due("ahead of all", x.nth(-1, 0), -1);
        FeastRules y = Check.made("set sa is day 2000-1-11;");
        Check.due("no rule", y.nth(0, 0), -1);
        Check.due("no rule", y.nth(5, 0), -1);
        Check.due("the set", y.nth(6, 0), 10);
        Check.due("no second set", y.nth(7, 0), -1);
    }

    private static void onAnyDay() {
        FeastRules x = book();
        Check.due("on(ENDS, 0)", x.on(ENDS, 0), 1);
        Check.due("on(ENDS, 1)", x.on(ENDS, 1), 0);
        Check.due("on(ENDS, 14608)", x.on(ENDS, LAST - 1), 0);
        Check.due("on(ENDS, 14609)", x.on(ENDS, LAST), 1);
        Check.due("on(EMPTY, 0)", x.on(EMPTY, 0), 0);
        for (int day : NO_DAYS) {
            Check.due("on(ENDS, " + day + ")", x.on(ENDS, day), -1);
            Check.due("on(ALL, " + day + ")", x.on(ALL, day), -1);
        }
        for (int what : NO_WHATS) {
            Check.due("on(" + what + ", 0)", x.on(what, 0), -1);
        }
    }

    private static void nextBehindADay() {
        FeastRules x = book();
        Check.due("next(ENDS, -1)", x.next(ENDS, -1), 0);
        Check.due("next(ENDS, 0)", x.next(ENDS, 0), LAST);
        Check.due("next(ENDS, 14608)", x.next(ENDS, LAST - 1), LAST);
        Check.due("next(ALL, 14608)", x.next(ALL, LAST - 1), LAST);
        Check.due("next(ONE, 1)", x.next(ONE, 1), 2);
        for (int day = 0; day < 200; day++) {
            Check.due("next(ENDS, " + day + ")", x.next(ENDS, day), LAST);
            Check.due("next(ALL, " + day + ")", x.next(ALL, day), day + 1);
        }
        for (int day : new int[] {MIN, -2, 14610, MAX}) {
            Check.due("next(ALL, " + day + ")", x.next(ALL, day), -1);
        }
        for (int what : NO_WHATS) {
            Check.due("next(" + what + ", -1)", x.next(what, -1), -1);
        }
    }

    private static void noneBehindADay() {
        FeastRules x = book();
        Check.due("next(ENDS, 14609)", x.next(ENDS, LAST), -1);
        Check.due("next(ALL, 14609)", x.next(ALL, LAST), -1);
        Check.due("next(ONE, 2)", x.next(ONE, 2), -1);
        Check.due("next(EMPTY, -1)", x.next(EMPTY, -1), -1);
    }

    private static void aheadOfADay() {
        FeastRules x = book();
        Check.due("ahead(ENDS, 14610)", x.ahead(ENDS, 14610), LAST);
        Check.due("ahead(ENDS, 14609)", x.ahead(ENDS, LAST), 0);
        Check.due("ahead(ENDS, 1)", x.ahead(ENDS, 1), 0);
        Check.due("ahead(ALL, 1)", x.ahead(ALL, 1), 0);
        Check.due("ahead(ONE, 3)", x.ahead(ONE, 3), 2);
        for (int day = 1; day < 200; day++) {
            Check.due("ahead(ENDS, " + day + ")", x.ahead(ENDS, day), 0);
            Check.due("ahead(ALL, " + day + ")", x.ahead(ALL, day), day - 1);
        }
        for (int day : new int[] {MIN, -1, 14611, MAX}) {
            Check.due("ahead(ALL, " + day + ")", x.ahead(ALL, day), -1);
        }
        for (int what : NO_WHATS) {
            Check.due("ahead(" + what + ", 14610)", x.ahead(what, 14610), -1);
        }
    }

    private static void noneAheadOfADay() {
        FeastRules x = book();
        Check.due("ahead(ENDS, 0)", x.ahead(ENDS, 0), -1);
        Check.due("ahead(ALL, 0)", x.ahead(ALL, 0), -1);
        Check.due("ahead(ONE, 2)", x.ahead(ONE, 2), -1);
        Check.due("ahead(EMPTY, 14610)", x.ahead(EMPTY, 14610), -1);
    }

    private static void placesOfNth() {
        FeastRules x = book();
        int[] cluster = {2, 4, 8, 12, 13};
        for (int k = 0; k < 5; k++) {
            Check.due("nth(CLUSTER, " + k + ")", x.nth(CLUSTER, k), cluster[k]);
            Check.due("nth(CLUSTER, " + (k - 5) + ")", x.nth(CLUSTER, k - 5), cluster[k]);
        }
        for (int k : new int[] {MIN, -6, 5, MAX}) {
            Check.due("nth(CLUSTER, " + k + ")", x.nth(CLUSTER, k), -1);
        }
        Check.due("nth(ALL, 14609)", x.nth(ALL, LAST), LAST);
        Check.due("nth(ALL, 14610)", x.nth(ALL, LAST + 1), -1);
        Check.due("nth(ALL, -14610)", x.nth(ALL, -14610), 0);
        Check.due("nth(ALL, -14611)", x.nth(ALL, -14611), -1);
        for (int k : new int[] {MIN, -1, 0, 1, MAX}) {
            Check.due("nth(EMPTY, " + k + ")", x.nth(EMPTY, k), -1);
        }
        for (int what : NO_WHATS) {
            Check.due("nth(" + what + ", 0)", x.nth(what, 0), -1);
        }
    }

    private static void manyBothWithThem() {
        FeastRules x = book();
        Check.due("many(ENDS, 0, 14609)", x.many(ENDS, 0, LAST), 2);
        Check.due("many(ENDS, 1, 14609)", x.many(ENDS, 1, LAST), 1);
        Check.due("many(ENDS, 0, 14608)", x.many(ENDS, 0, LAST - 1), 1);
        Check.due("many(ENDS, 1, 14608)", x.many(ENDS, 1, LAST - 1), 0);
        Check.due("many(CLUSTER, 2, 4)", x.many(CLUSTER, 2, 4), 2);
        Check.due("many(CLUSTER, 3, 4)", x.many(CLUSTER, 3, 4), 1);
        Check.due("many(CLUSTER, 2, 3)", x.many(CLUSTER, 2, 3), 1);
        Check.due("many(ALL, 0, 14609)", x.many(ALL, 0, LAST), 14610);
        Check.due("many(EMPTY, 0, 14609)", x.many(EMPTY, 0, LAST), 0);
        for (int day = 1; day < 200; day++) {
            Check.due("many(ENDS, 0, " + day + ")", x.many(ENDS, 0, day), 1);
            Check.due("many(ALL, " + day + ", 200)", x.many(ALL, day, 200), 201 - day);
        }
    }

    private static void manyThatCantBe() {
        FeastRules x = book();
        Check.due("many(ALL, 7, 7)", x.many(ALL, 7, 7), 1);
        Check.due("many(ALL, 8, 7)", x.many(ALL, 8, 7), -1);
        Check.due("many(ALL, 14609, 0)", x.many(ALL, LAST, 0), -1);
        Check.due("many(ALL, 0, 0)", x.many(ALL, 0, 0), 1);
        Check.due("many(ALL, 14609, 14609)", x.many(ALL, LAST, LAST), 1);
        for (int day : NO_DAYS) {
            Check.due("many(ALL, " + day + ", 14609)", x.many(ALL, day, LAST), -1);
            Check.due("many(ALL, 0, " + day + ")", x.many(ALL, 0, day), -1);
            Check.due("many(ALL, " + day + ", " + day + ")", x.many(ALL, day, day), -1);
        }
        for (int what : NO_WHATS) {
            Check.due("many(" + what + ", 0, 14609)", x.many(what, 0, LAST), -1);
        }
    }

    private static void longestGap() {
        FeastRules x = book();
        // Days 2, 4, 8, 12, 13: two gaps of four, the first of them from 4 on.
        Check.due("gap(CLUSTER, 0)", x.gap(CLUSTER, 0), 4);
        Check.due("gap(CLUSTER, 1)", x.gap(CLUSTER, 1), 4);
        Check.due("gap(ENDS, 0)", x.gap(ENDS, 0), LAST);
        Check.due("gap(ENDS, 1)", x.gap(ENDS, 1), 0);
        Check.due("gap(ALL, 0)", x.gap(ALL, 0), 1);
        Check.due("gap(ALL, 1)", x.gap(ALL, 1), 0);
        FeastRules y = Check.made("set a is day 2039-12-30,2039-12-31;set b is day 2000-1-1,2000-1-2,2039-12-31;");
        Check.due("two days", y.gap(6, 0), 1);
        Check.due("two days", y.gap(6, 1), LAST - 1);
        Check.due("the last gap", y.gap(7, 0), LAST - 1);
        Check.due("the last gap", y.gap(7, 1), 1);
    }

    private static void noGap() {
        FeastRules x = book();
        for (int of = 0; of < 2; of++) {
            Check.due("gap(ONE, " + of + ")", x.gap(ONE, of), -1);
            Check.due("gap(EMPTY, " + of + ")", x.gap(EMPTY, of), -1);
            for (int what : NO_WHATS) {
                Check.due("gap(" + what + ", " + of + ")", x.gap(what, of), -1);
            }
        }
        for (int of : new int[] {MIN, -1, 2, MAX}) {
            Check.due("gap(CLUSTER, " + of + ")", x.gap(CLUSTER, of), -1);
        }
    }

    private static void freeFromADayOn() {
        FeastRules x = book();
        Check.due("free(CLUSTER, 0, 2)", x.free(CLUSTER, 0, 2), 0);
        Check.due("free(CLUSTER, 0, 3)", x.free(CLUSTER, 0, 3), 5);
        Check.due("free(CLUSTER, 1, 1)", x.free(CLUSTER, 1, 1), 1);
        Check.due("free(CLUSTER, 2, 1)", x.free(CLUSTER, 2, 1), 3);
        Check.due("free(CLUSTER, 3, 1)", x.free(CLUSTER, 3, 1), 3);
        Check.due("free(CLUSTER, 3, 2)", x.free(CLUSTER, 3, 2), 5);
        Check.due("free(CLUSTER, 6, 3)", x.free(CLUSTER, 6, 3), 9);
        Check.due("free(CLUSTER, 0, 4)", x.free(CLUSTER, 0, 4), 14);
    }

    private static void freeDaysThatCantBe() {
        FeastRules x = book();
        Check.due("free(CLUSTER, 0, 1)", x.free(CLUSTER, 0, 1), 0);
        Check.due("free(CLUSTER, 0, 999)", x.free(CLUSTER, 0, 999), 14);
        for (int n : new int[] {MIN, -1, 0, 1000, MAX}) {
            Check.due("free(CLUSTER, 0, " + n + ")", x.free(CLUSTER, 0, n), -1);
        }
        Check.due("free(CLUSTER, 14609, 1)", x.free(CLUSTER, LAST, 1), LAST);
        for (int day : NO_DAYS) {
            Check.due("free(CLUSTER, " + day + ", 1)", x.free(CLUSTER, day, 1), -1);
        }
        for (int what : NO_WHATS) {
            Check.due("free(" + what + ", 0, 1)", x.free(what, 0, 1), -1);
        }
    }

    private static void freeUpToTheLastDay() {
        FeastRules x = book();
        Check.due("free(ONE, 13611, 999)", x.free(ONE, 13611, 999), 13611);
        Check.due("free(ONE, 13612, 999)", x.free(ONE, 13612, 999), -1);
        Check.due("free(ENDS, 13610, 999)", x.free(ENDS, 13610, 999), 13610);
        Check.due("free(ENDS, 13611, 999)", x.free(ENDS, 13611, 999), -1);
        Check.due("free(EMPTY, 14608, 2)", x.free(EMPTY, LAST - 1, 2), LAST - 1);
        Check.due("free(EMPTY, 14609, 2)", x.free(EMPTY, LAST, 2), -1);
        Check.due("free(ENDS, 14609, 1)", x.free(ENDS, LAST, 1), -1);
        Check.due("free(ALL, 0, 1)", x.free(ALL, 0, 1), -1);
        FeastRules y = Check.made("rule r every 1 days from 2000-1-1 until 2039-12-30;rule s every 1 days from 2000-1-1 until 2039-12-29;");
        Check.due("the last alone", y.free(0, 0, 1), LAST);
        Check.due("no two", y.free(0, 0, 2), -1);
        Check.due("the last two", y.free(1, 0, 2), LAST - 1);
        Check.due("no three", y.free(1, 0, 3), -1);
    }

    private static void meetFromADayOn() {
        FeastRules x = Check.made("set a is day 2000-1-1,2000-1-3,2039-12-31;set b is day 2000-1-1,2000-1-4,2039-12-31;set n is a less a;");
        Check.due("both, from 0", x.meet(6, 7, 0, 0), 0);
        Check.due("both, from 1", x.meet(6, 7, 1, 0), LAST);
        Check.due("both, from 14609", x.meet(6, 7, LAST, 0), LAST);
        Check.due("just one, from 0", x.meet(6, 7, 0, 1), 2);
        Check.due("just one, from 2", x.meet(6, 7, 2, 1), 2);
        Check.due("just one, from 3", x.meet(6, 7, 3, 1), 3);
        Check.due("just one of a and none", x.meet(6, 8, LAST, 1), LAST);
        Check.due("the other way round", x.meet(8, 6, LAST, 1), LAST);
    }

    private static void neverMeet() {
        FeastRules x = Check.made("set a is day 2000-1-1,2000-1-3,2039-12-30;set b is day 2000-1-1,2000-1-4,2039-12-30;set n is a less a;");
        Check.due("both, from 14608", x.meet(6, 7, LAST - 1, 0), LAST - 1);
        Check.due("both, from 14609", x.meet(6, 7, LAST, 0), -1);
        Check.due("just one, from 3", x.meet(6, 7, 3, 1), 3);
        Check.due("just one, from 4", x.meet(6, 7, 4, 1), -1);
        Check.due("one with itself", x.meet(6, 6, 0, 1), -1);
        Check.due("both of a and none", x.meet(6, 8, 0, 0), -1);
        Check.due("just one of none and none", x.meet(8, 8, 0, 1), -1);
        for (int of : new int[] {MIN, -1, 2, MAX}) {
            Check.due("meet(6, 7, 0, " + of + ")", x.meet(6, 7, 0, of), -1);
        }
        for (int day : NO_DAYS) {
            Check.due("meet(6, 7, " + day + ", 0)", x.meet(6, 7, day, 0), -1);
            Check.due("meet(6, 7, " + day + ", 1)", x.meet(6, 7, day, 1), -1);
        }
        for (int what : new int[] {MIN, -1, 0, 5, 9, 11, 12, MAX}) {
            Check.due("meet(" + what + ", 6, 0, 0)", x.meet(what, 6, 0, 0), -1);
            Check.due("meet(6, " + what + ", 0, 1)", x.meet(6, what, 0, 1), -1);
        }
    }

    private static void howWeekdaysAndMonthsFare() {
        FeastRules x = book();
        // 14610 days from a saturday to a saturday.
        int[] weekdays = {2087, 2087, 2087, 2087, 2087, 2088, 2087};
        int[] months = {31, 28, 31, 30, 31, 30, 31, 31, 30, 31, 30, 31};
        for (int of = 0; of < 7; of++) {
            Check.due("fares(ALL, " + of + ")", x.fares(ALL, of), weekdays[of]);
            Check.due("fares(EMPTY, " + of + ")", x.fares(EMPTY, of), 0);
        }
        for (int of = 7; of < 19; of++) {
            Check.due("fares(ALL, " + of + ")", x.fares(ALL, of), months[of - 7] * 40 + (of == 8 ? 10 : 0));
            Check.due("fares(ENDS, " + of + ")", x.fares(ENDS, of), of == 7 || of == 18 ? 1 : 0);
        }
        for (int of : new int[] {MIN, -1, 19, MAX}) {
            Check.due("fares(ALL, " + of + ")", x.fares(ALL, of), -1);
        }
        for (int what : NO_WHATS) {
            Check.due("fares(" + what + ", 0)", x.fares(what, 0), -1);
        }
    }

    private static void whatAPeriodHas() {
        FeastRules x = Check.made("rule r every 2 months from 2000-3-15 by mon at 1,-1 until 2000-3-20 count 1;rule w every 1 weeks from 2000-1-3 at 2;"
            + "rule d every 1 days from 2000-1-1 in 2;set s is r;");
        // Ahead of the beginning and behind until a period has what it has.
        Check.due("january, before", x.period(0, 0, 0), 5);
        Check.due("january, behind", x.period(0, 0, 1), 2);
        Check.due("january, goes", x.period(0, 0, 2), 0);
        Check.due("march, goes", x.period(0, 60, 2), 1);
        Check.due("may, goes", x.period(0, 121, 2), 1);
        Check.due("december 2039, before", x.period(0, LAST, 0), 4);
        Check.due("a week, before", x.period(1, 5, 0), 1);
        Check.due("a week, behind", x.period(1, 5, 1), 0);
        Check.due("the first week, without its monday", x.period(1, 1, 0), 0);
        Check.due("january 31st", x.period(2, 30, 0), 0);
        Check.due("february 1st", x.period(2, 31, 0), 1);
    }

    private static void periodThatThereIsNot() {
        FeastRules x = Check.made(Texts.rules(2) + "set s is a;");
        for (int what = 0; what < 3; what++) {
            Check.due("period(0, 0, " + what + ")", x.period(0, 0, what), 1);
            Check.due("period(1, 14609, " + what + ")", x.period(1, LAST, what), 1);
            for (int day : NO_DAYS) {
                Check.due("period(0, " + day + ", " + what + ")", x.period(0, day, what), -1);
            }
            for (int rule : new int[] {MIN, -1, 2, 5, 6, 11, 12, MAX}) {
                Check.due("period(" + rule + ", 0, " + what + ")", x.period(rule, 0, what), -1);
            }
        }
        for (int what : new int[] {MIN, -1, 3, MAX}) {
            Check.due("period(0, 0, " + what + ")", x.period(0, 0, what), -1);
        }
    }

    private static void sumModulo() {
        FeastRules x = book();
        Check.due("sum(EMPTY)", x.sum(EMPTY), 0);
        Check.due("sum(ONE)", x.sum(ONE), 2);
        Check.due("sum(ENDS)", x.sum(ENDS), 2 * LAST);
        long all = 0;
        for (int day = 0; day <= LAST; day++) {
            all += (day + 1L) * day;
        }
        Check.due("sum(ALL)", x.sum(ALL), all % 1000003);
        // Eleven days, 12902 .. 12912, and one ahead of them that makes the sum 1,000,002, 1,000,003 and 1,000,004.
        for (int more = -1; more <= 1; more++) {
            FeastRules y = Check.made("set n is day 2000-1-1 less day 2000-1-1;");
            int left = 1000003 + more;
            for (int place = 12; place >= 2; place--) {
                int day = 12900 + place;
                y.add(0, day);
                left -= place * day;
            }
            y.add(0, left);
            Check.due("a first day that is below the others", left >= 0 && left < 12902, true);
            Check.due("twelve days", y.many(6, 0, LAST), 12);
            Check.due("sum of 1000003 and " + more, y.sum(6), more == -1 ? 1000002 : more);
        }
        for (int what : NO_WHATS) {
            Check.due("sum(" + what + ")", x.sum(what), -1);
        }
    }
}
