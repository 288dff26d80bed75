/** What rules have as days (terms, II), and promises 11 to 21 on them. */
public final class RuleDaysTest {
    public static void main(String[] args) {
        byDays();
        byWeeks();
        byMonths();
        byYears();
        placesAndEnds();
        asking();
        askingWrongly();
        gapsAndFree();
        meeting();
        periods();
        Check.close("RuleDaysTest");
    }

    private static FeastRules rule(String rest) {
        return Check.made("rule r every " + rest + ";");
    }

    private static void dates(String rest, int... want) {
        Check.dates(rule(rest), 0, want);
    }

    private static void byDays() {
        dates("3 days from 2000-2-27", 20000227, 20000301, 20000304);
        dates("1 days from 2000-1-30 in 2,4", 20000201, 20000202);
        dates("1 days from 2000-1-30 on 1,-1", 20000131, 20000201, 20000229, 20000301);
        dates("1 days from 2000-1-1 by fri on 13", 20001013, 20010413, 20010713, 20020913, 20021213);
        dates("2 days from 2000-1-1 by sun,mon", 20000103, 20000109, 20000117);
        dates("1 days from 2000-1-1 at -1", 20000101, 20000102);
        Check.days(rule("1 days from 2000-1-1 at 2"), 0);
        Check.days(rule("99 days from 2039-12-1"), 0, 14579);
    }

    private static void byWeeks() {
        dates("1 weeks from 2000-1-5", 20000105, 20000112);
        dates("2 weeks from 2000-1-5 by mon,fri", 20000107, 20000117, 20000121, 20000131);
        dates("2 weeks from 2000-1-9 by mon,sun", 20000109, 20000117, 20000123);
        dates("1 weeks from 2000-1-1 by tue in 3", 20000307, 20000314, 20000321, 20000328, 20010306);
        dates("1 weeks from 2000-1-1 by fri on 13", 20001013, 20010413);
        dates("1 weeks from 2000-1-1 on -1", 20000930, 20010331);
        dates("1 weeks from 2000-1-1 by mon,wed,sun at 1,-1", 20000102, 20000103, 20000109, 20000110);
        // The first week has saturday and sunday alone, the last one no sunday.
        dates("1 weeks from 2000-1-1 by sat,sun,mon at 1", 20000101, 20000103);
        FeastRules x = rule("1 weeks from 2000-1-1 by mon,sat,sun at -1");
        Check.due("last", x.nth(0, -1), 14609);
        Check.due("the one ahead", x.nth(0, -2), 14603);
    }

    private static void byMonths() {
        dates("1 months from 2000-1-31", 20000131, 20000331, 20000531, 20000731);
        dates("3 months from 2000-1-15", 20000115, 20000415, 20000715, 20001015, 20010115);
        dates("1 months from 2000-1-1 in 2,11", 20000201, 20001101, 20010201);
        dates("1 months from 2000-1-1 on 30,-1", 20000130, 20000131, 20000229, 20000330);
        dates("1 months from 2000-1-1 on 31,-31", 20000101, 20000131, 20000301, 20000331, 20000501);
        dates("1 months from 2000-1-1 on 13 by fri", 20001013, 20010413);
        dates("1 months from 2000-1-1 on 13 by 1 fri,-5 mon", 20000313, 20001013, 20001113);
        dates("1 months from 2000-1-1 by 2 tue", 20000111, 20000208, 20000314);
        dates("1 months from 2000-1-1 by -1 fri,1 mon", 20000103, 20000128, 20000207, 20000225);
        dates("1 months from 2000-1-1 by 5 thu", 20000330, 20000629, 20000831);
        dates("1 months from 2000-1-1 by -5 thu", 20000302, 20000601, 20000803);
        dates("1 months from 2000-2-1 by sun,1 sun", 20000206, 20000213, 20000220, 20000227, 20000305);
        dates("12 months from 2000-5-1 by -1 mon", 20000529, 20010528, 20020527);
        Check.days(rule("1 months from 2000-1-1 by 6 mon,-6 tue,53 sun"), 0);
    }

    private static void byYears() {
        dates("1 years from 2000-2-29", 20000229, 20040229, 20080229);
        dates("3 years from 2000-2-29", 20000229, 20120229, 20240229, 20360229);
        dates("1 years from 2000-1-31 in 1,2,3", 20000131, 20000331, 20010131);
        dates("1 years from 2000-1-1 in 11 by 4 thu", 20001123, 20011122, 20021128);
        dates("4 years from 2000-1-1 in 11 on 2,3,4,5,6,7,8 by tue", 20001107, 20041102, 20081104, 20121106);
        dates("1 years from 2000-1-1 on 13 by fri", 20001013, 20010413, 20010713);
        dates("1 years from 2000-1-1 on -1", 20000131, 20000229, 20000331);
        dates("1 years from 2000-1-1 by 20 mon", 20000515, 20010514, 20020520);
        dates("1 years from 2000-1-1 by 53 sat", 20001230, 20051231, 20111231);
        dates("1 years from 2000-1-1 by -53 sun,-1 sun", 20000102, 20001231, 20011230);
        dates("1 years from 2000-12-24 by sun", 20001224, 20001231, 20010107);
        dates("1 years from 2000-12-25", 20001225, 20011225);
    }

    private static void placesAndEnds() {
        dates("1 months from 2000-1-1 by mon,tue,wed,thu,fri at -1", 20000131, 20000229, 20000331, 20000428);
        dates("1 months from 2000-1-20 by mon at 1", 20000207, 20000306);
        dates("1 months from 2000-1-20 by mon at -1,1", 20000131, 20000207, 20000228);
        dates("1 years from 2000-1-1 in 2 by sun,mon at 99,9,-9,2", 20000207, 20010205, 20020204);
        dates("1 years from 2000-1-1 by sun at 53,-1", 20001231, 20011230);
        // Behind at: not ahead of the beginning, not behind until, then count.
        Check.days(rule("1 days from 2000-1-3 until 2000-1-5"), 0, 2, 3, 4);
        Check.days(rule("1 days from 2000-1-3 until 2000-1-3"), 0, 2);
        Check.days(rule("1 days from 2000-1-3 until 2000-1-2"), 0);
        Check.days(rule("1 days from 2000-1-3 count 2"), 0, 2, 3);
        Check.days(rule("1 weeks from 2000-1-5 by mon,wed,fri count 3"), 0, 4, 6, 9);
        Check.days(rule("1 weeks from 2000-1-5 by mon,wed,fri at 1 count 2 until 2000-1-12"), 0, 9);
        Check.days(rule("1 days from 2000-1-3 count 5 until 2000-1-4"), 0, 2, 3);
        Check.due("count 999", rule("1 days from 2000-1-1 count 999").many(0, 0, 14609), 999);
        Check.due("all days", rule("1 days from 2000-1-1").many(0, 0, 14609), 14610);
    }

    private static void asking() {
        FeastRules x = rule("10 days from 2000-1-5 until 2000-2-3");
        Check.days(x, 0, 4, 14, 24);
        Check.due("on(0, 5)", x.on(0, 5), 0);
        Check.due("on(0, 0)", x.on(0, 0), 0);
        Check.due("on(0, 14609)", x.on(0, 14609), 0);
        Check.due("next(0, -1)", x.next(0, -1), 4);
        Check.due("next(0, 3)", x.next(0, 3), 4);
        Check.due("next(0, 14609)", x.next(0, 14609), -1);
        Check.due("ahead(0, 4)", x.ahead(0, 4), -1);
        Check.due("ahead(0, 5)", x.ahead(0, 5), 4);
        Check.due("ahead(0, 14)", x.ahead(0, 14), 4);
        Check.due("ahead(0, 14610)", x.ahead(0, 14610), 24);
        Check.due("ahead(0, 0)", x.ahead(0, 0), -1);
        int[] back = {24, 14, 4, -1};
        for (int k = 1; k <= 4; k++) {
            Check.due("nth(0, " + -k + ")", x.nth(0, -k), back[k - 1]);
        }
        Check.due("nth(0, 3)", x.nth(0, 3), -1);
        Check.due("many(0, 4, 14)", x.many(0, 4, 14), 2);
        Check.due("many(0, 5, 13)", x.many(0, 5, 13), 0);
        Check.due("many(0, 14, 14)", x.many(0, 14, 14), 1);
        Check.due("sum(0)", x.sum(0), 4 + 2 * 14 + 3 * 24);
        Check.due("fares(0, 2)", x.fares(0, 2), 1);
        Check.due("fares(0, 5)", x.fares(0, 5), 1);
        Check.due("fares(0, 1)", x.fares(0, 1), 1);
        Check.due("fares(0, 0)", x.fares(0, 0), 0);
        Check.due("fares(0, 7)", x.fares(0, 7), 3);
        Check.due("fares(0, 8)", x.fares(0, 8), 0);
        FeastRules all = rule("1 days from 2000-1-1");
        long sum = 0;
        for (int d = 0; d < 14610; d++) {
            sum += (d + 1L) * d;
        }
        Check.due("sum of all", all.sum(0), sum % 1000003);
        Check.due("februaries", all.fares(0, 8), 40 * 28 + 10);
        Check.due("decembers", all.fares(0, 18), 40 * 31);
        Check.due("sundays", all.fares(0, 6), 2087);
        Check.due("saturdays", all.fares(0, 5), 2088);
        Check.due("nth(0, 14609)", all.nth(0, 14609), 14609);
        Check.due("nth(0, -14610)", all.nth(0, -14610), 0);
    }

    private static void askingWrongly() {
        FeastRules x = rule("1 days from 2000-1-1");
        for (int what : new int[] {Integer.MIN_VALUE, -1, 1, 5, 6, 11, 12, Integer.MAX_VALUE}) {
            String w = "(" + what + ", ..)";
            Check.due("on" + w, x.on(what, 0), -1);
            Check.due("next" + w, x.next(what, 0), -1);
            Check.due("ahead" + w, x.ahead(what, 5), -1);
            Check.due("nth" + w, x.nth(what, 0), -1);
            Check.due("many" + w, x.many(what, 0, 1), -1);
            Check.due("gap" + w, x.gap(what, 0), -1);
            Check.due("free" + w, x.free(what, 0, 1), -1);
            Check.due("meet" + w, x.meet(what, 0, 0, 0), -1);
            Check.due("meet(0, " + what + ", ..)", x.meet(0, what, 0, 0), -1);
            Check.due("fares" + w, x.fares(what, 0), -1);
            Check.due("period" + w, x.period(what, 0, 0), -1);
            Check.due("sum" + w, x.sum(what), -1);
        }
        for (int day : new int[] {Integer.MIN_VALUE, -1, 14610, Integer.MAX_VALUE}) {
            Check.due("on(0, " + day + ")", x.on(0, day), -1);
            Check.due("many(0, " + day + ", 5)", x.many(0, day, 5), -1);
            Check.due("many(0, 5, " + day + ")", x.many(0, 5, day), -1);
            Check.due("free(0, " + day + ", 1)", x.free(0, day, 1), -1);
            Check.due("meet(0, 0, " + day + ", 0)", x.meet(0, 0, day, 0), -1);
            Check.due("meet(0, 0, 0, " + day + ")", x.meet(0, 0, 0, day), -1);
            Check.due("period(0, " + day + ", 0)", x.period(0, day, 0), -1);
            Check.due("period(0, 0, " + day + ")", x.period(0, 0, day), -1);
            Check.due("gap(0, " + day + ")", x.gap(0, day), -1);
            Check.due("fares(0, " + day + ")", x.fares(0, day), -1);
        }
        Check.due("next(0, -2)", x.next(0, -2), -1);
        Check.due("next(0, 14610)", x.next(0, 14610), -1);
        Check.due("next(0, MIN)", x.next(0, Integer.MIN_VALUE), -1);
        Check.due("next(0, MAX)", x.next(0, Integer.MAX_VALUE), -1);
        Check.due("ahead(0, -1)", x.ahead(0, -1), -1);
        Check.due("ahead(0, 14611)", x.ahead(0, 14611), -1);
        Check.due("ahead(0, MIN)", x.ahead(0, Integer.MIN_VALUE), -1);
        Check.due("nth(0, MIN)", x.nth(0, Integer.MIN_VALUE), -1);
        Check.due("nth(0, MAX)", x.nth(0, Integer.MAX_VALUE), -1);
        Check.due("many(0, 1, 0)", x.many(0, 1, 0), -1);
        Check.due("fares(0, 19)", x.fares(0, 19), -1);
    }

    private static void gapsAndFree() {
        FeastRules x = Check.made("set a is day 2000-1-3,2000-1-5,2000-1-9,2000-1-13,2000-1-14;set b is day 2000-1-3;set c is day 2039-12-31 ;"
            + "set n is b less b;rule r every 1 days from 2000-1-1;");
        Check.due("gap(6, 0)", x.gap(6, 0), 4);
        Check.due("gap(6, 1)", x.gap(6, 1), 4);
        Check.due("gap(6, 2)", x.gap(6, 2), -1);
        for (int of = 0; of < 2; of++) {
            Check.due("gap of one day", x.gap(7, of), -1);
            Check.due("gap of none", x.gap(9, of), -1);
        }
        Check.due("gap of all", x.gap(0, 0), 1);
        Check.due("first gap of all", x.gap(0, 1), 0);
        Check.due("free(6, 0, 2)", x.free(6, 0, 2), 0);
        Check.due("free(6, 1, 1)", x.free(6, 1, 1), 1);
        Check.due("free(6, 1, 2)", x.free(6, 1, 2), 5);
        Check.due("free(6, 0, 3)", x.free(6, 0, 3), 5);
        Check.due("free(6, 0, 4)", x.free(6, 0, 4), 14);
        Check.due("free(6, 5, 3)", x.free(6, 5, 3), 5);
        Check.due("free(6, 6, 3)", x.free(6, 6, 3), 9);
        Check.due("free(8, 13610, 999)", x.free(8, 13610, 999), 13610);
        Check.due("free(8, 13611, 999)", x.free(8, 13611, 999), -1);
        Check.due("free(6, 13611, 999)", x.free(6, 13611, 999), 13611);
        Check.due("free(6, 13612, 999)", x.free(6, 13612, 999), -1);
        Check.due("free(6, 14609, 1)", x.free(6, 14609, 1), 14609);
        Check.due("free(8, 14609, 1)", x.free(8, 14609, 1), -1);
        Check.due("free(0, 0, 1)", x.free(0, 0, 1), -1);
        Check.due("free(6, 0, 0)", x.free(6, 0, 0), -1);
        Check.due("free(6, 0, 1000)", x.free(6, 0, 1000), -1);
        Check.due("free(6, 0, -1)", x.free(6, 0, -1), -1);
    }

    private static void meeting() {
        FeastRules x = Check.made("set a is day 2000-1-3,2000-1-5,2000-1-9;set b is day 2000-1-5,2000-1-9,2000-1-11;");
        Check.due("meet(6, 7, 0, 0)", x.meet(6, 7, 0, 0), 4);
        Check.due("meet(6, 7, 4, 0)", x.meet(6, 7, 4, 0), 4);
        Check.due("meet(6, 7, 5, 0)", x.meet(6, 7, 5, 0), 8);
        Check.due("meet(6, 7, 9, 0)", x.meet(6, 7, 9, 0), -1);
        Check.due("meet(6, 7, 0, 1)", x.meet(6, 7, 0, 1), 2);
        Check.due("meet(7, 6, 3, 1)", x.meet(7, 6, 3, 1), 10);
        Check.due("meet(6, 7, 11, 1)", x.meet(6, 7, 11, 1), -1);
        Check.due("meet(6, 6, 0, 1)", x.meet(6, 6, 0, 1), -1);
        Check.due("meet(6, 6, 0, 0)", x.meet(6, 6, 0, 0), 2);
        Check.due("meet(6, 7, 0, 2)", x.meet(6, 7, 0, 2), -1);
        Check.due("meet(6, 7, 0, -1)", x.meet(6, 7, 0, -1), -1);
    }

    private static void periods() {
        FeastRules x = Check.made("rule a every 2 weeks from 2000-1-12 by mon,wed,sat,sun at 1,-1 until 2000-1-13 count 1;"
            + "rule b every 3 months from 2000-2-20 on 29,30,31;rule c every 4 years from 2001-1-1 in 2 by sun;rule d every 5 days from 2000-1-3 by mon;");
        Check.due("week of day 0, all", x.period(0, 0, 0), 2);
        Check.due("week of day 2, all", x.period(0, 2, 0), 4);
        Check.due("week of day 2, kept", x.period(0, 2, 1), 2);
        Check.due("week of day 2 goes", x.period(0, 2, 2), 0);
        Check.due("week of day 8", x.period(0, 8, 2), 0);
        Check.due("week of day 9", x.period(0, 9, 2), 1);
        Check.due("week of day 15", x.period(0, 15, 2), 1);
        Check.due("week of day 16", x.period(0, 16, 2), 0);
        Check.due("week of day 23, behind until", x.period(0, 23, 2), 1);
        Check.due("last week", x.period(0, 14609, 0), 3);
        Check.due("january", x.period(1, 0, 0), 3);
        Check.due("february 2000", x.period(1, 31, 0), 1);
        Check.due("february 2001", x.period(1, 31 + 366, 0), 0);
        Check.due("january goes", x.period(1, 30, 2), 0);
        Check.due("february goes", x.period(1, 31, 2), 1);
        Check.due("march goes", x.period(1, 60, 2), 0);
        Check.due("may goes", x.period(1, 121, 2), 1);
        Check.due("year 2000, kept", x.period(2, 365, 1), 4);
        Check.due("year 2000 goes", x.period(2, 365, 2), 0);
        Check.due("year 2001 goes", x.period(2, 366, 2), 1);
        Check.due("year 2005 goes", x.period(2, 1827, 2), 1);
        Check.due("year 2004 goes", x.period(2, 1826, 2), 0);
        Check.due("a monday", x.period(3, 9, 0), 1);
        Check.due("a tuesday", x.period(3, 10, 0), 0);
        Check.due("day 7 goes", x.period(3, 7, 2), 1);
        Check.due("day 8 goes", x.period(3, 8, 2), 0);
        Check.due("what 3", x.period(3, 8, 3), -1);
    }
}
