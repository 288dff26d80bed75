import java.time.LocalDate;

/** Boundary cases of promises 1 to 10: a new object, the tape, the book, what it has, days and dates. */
public final class EdgeCallsTest {
    private static final int MIN = Integer.MIN_VALUE;
    private static final int MAX = Integer.MAX_VALUE;
    private static final String BOOK = "rule ab every 7 weeks from 2000-1-5 in 2,12 on 1,-1 by mon,tue,sun at 1,2,-1,-2 until 2000-1-9 count 12;"
        + "rule abcdef every 1 days from 2000-1-1;set zyxwv is ab;set q is ab;";

    public static void main(String[] args) throws ReflectiveOperationException {
        Edges.run(EdgeCallsTest.class);
    }

    private static FeastRules fed(int bytes) {
        FeastRules x = Check.made(BOOK);
        for (int i = 0; i < (bytes + 19) / 20; i++) {
            x.feed(0, 0, 0, 0, 0);
        }
        x.end(bytes);
        return x;
    }

    private static void fiveHundredTwelveCalls() {
        FeastRules x = new FeastRules();
        for (int i = 1; i <= 511; i++) {
            Check.due("call " + i, x.seed(-1), false);
        }
        Check.due("call 512", x.status(5), 511);
        FeastRules y = new FeastRules();
        for (int i = 1; i <= 80; i++) {
            y.feed(0, 0, 0, 0, 0);
        }
        for (int i = 81; i <= 511; i++) {
            Check.due("feed " + i, y.feed(0, 0, 0, 0, 0), -1);
        }
        Check.due("call 512", y.status(0), 431);
    }

    private static void noneIsMinusOne() {
        Check.due("NONE", FeastRules.NONE, -1);
    }

    private static void noBook() {
        FeastRules x = new FeastRules();
        for (int i = 0; i < 6; i++) {
            Check.due("has(" + i + ")", x.has(i), 0);
        }
        for (int what = 0; what < 12; what++) {
            Check.due("letter(" + what + ")", x.letter(what, 0), -1);
            Check.due("rule(" + what + ")", x.rule(what, 0), -1);
            Check.due("on(" + what + ")", x.on(what, 0), -1);
            Check.due("next(" + what + ")", x.next(what, -1), -1);
            Check.due("ahead(" + what + ")", x.ahead(what, 14610), -1);
            Check.due("nth(" + what + ")", x.nth(what, 0), -1);
            Check.due("many(" + what + ")", x.many(what, 0, 14609), -1);
            Check.due("gap(" + what + ")", x.gap(what, 0), -1);
            Check.due("free(" + what + ")", x.free(what, 0, 1), -1);
            Check.due("meet(" + what + ")", x.meet(what, what, 0, 1), -1);
            Check.due("fares(" + what + ")", x.fares(what, 0), -1);
            Check.due("period(" + what + ")", x.period(what, 0, 0), -1);
            Check.due("sum(" + what + ")", x.sum(what), -1);
        }
        Refusal.none("see(0)", Refusal.TEXT, FeastRules::new, y -> Check.see(y, 0, 0, 0));
        Refusal.no("add(0, 0)", Refusal.MARK, FeastRules::new, y -> y.add(0, 0));
        Refusal.no("leave(0, 0)", Refusal.MARK, FeastRules::new, y -> y.leave(0, 0));
        Refusal.no("every(0, 1)", Refusal.RULE, FeastRules::new, y -> y.every(0, 1));
        Refusal.no("from(0, 0)", Refusal.RULE, FeastRules::new, y -> y.from(0, 0));
        Refusal.none("chance(1)", Refusal.MARK, FeastRules::new, y -> y.chance(1));
        Refusal.no("undo()", Refusal.UNDO, FeastRules::new, FeastRules::undo);
    }

    private static void bytesOfFeed() {
        FeastRules x = new FeastRules();
        Check.due("the first", x.feed(0x80000000, 0x7fffffff, -1, 0, 1), 20);
        // Three rows of three bytes; 0x3911 is 14609.
        FeastRules y = Check.made(BOOK);
        y.feed(0x00050100, 0x06003911, 0x01000000, 0, 0);
        y.end(9);
        Check.due("see of days 5, 6, 14609", y.see(1), 3);
        y.feed(0x00050100, 0x06003912, 0x01000000, 0, 0);
        y.end(9);
        Check.due("see of day 14610", y.see(1), -1);
        // The highest byte first, of a number below 0 too.
        y.feed(0xff000000, 0, 0, 0, 0);
        y.end(3);
        Check.due("see of day 65280", y.see(1), -1);
    }

    private static void mostBytesOfFeed() {
        FeastRules x = new FeastRules();
        for (int i = 1; i <= 80; i++) {
            Check.due("feed " + i, x.feed(i, i, i, i, i), i * 20);
        }
        Check.due("feed 81", x.feed(0, 0, 0, 0, 0), -1);
        Check.due("status(0)", x.status(0), 1);
        Check.due("end(1600): all stand", x.end(1600), true);
        Refusal.none("feed at 1600", Refusal.TAPE, () -> fed(1600), y -> y.feed(0, 0, 0, 0, 0));
        Refusal.none("feed at 1581", Refusal.TAPE, () -> fed(1581), y -> y.feed(0, 0, 0, 0, 0));
        Check.due("feed at 1580", fed(1580).feed(0, 0, 0, 0, 0), 1600);
        Check.due("feed at 1579", fed(1579).feed(0, 0, 0, 0, 0), 1599);
    }

    private static void bookOfMostBytes() {
        String text = " ".repeat(1600 - "set a is day 2000-1-1;".length()) + "set a is day 2000-1-1;";
        Texts.right(1, text);
        Texts.fault(1, " ".repeat(1600) + "^");
    }

    private static void endWithinTheTape() {
        for (int size : new int[] {0, 1, 20, 1600}) {
            Check.due("end(0) of " + size, fed(size).end(0), true);
            Check.due("end(all) of " + size, fed(size).end(size), true);
            Refusal.no("end(one more) of " + size, Refusal.TAPE, () -> fed(size), y -> y.end(size + 1));
        }
        for (int n : new int[] {-1, MIN, MAX, 1601}) {
            Refusal.no("end(" + n + ")", Refusal.TAPE, y -> y.end(n));
        }
        FeastRules x = fed(20);
        x.end(7);
        Check.due("end(8): it has 7", x.end(8), false);
        Check.due("feed behind 7", x.feed(0, 0, 0, 0, 0), 27);
        Check.due("end(27)", x.end(27), true);
        Check.due("end(0)", x.end(0), true);
        Check.due("end(1)", x.end(1), false);
    }

    private static void bytesBehindTheEndAreGone() {
        FeastRules x = new FeastRules();
        Check.tape(x, "set a is day 2000-1-1;set b is a;");
        Check.due("end(22)", x.end(22), true);
        Check.due("book()", x.book(), 1);
        Check.tape(x, "set a is day 2000-1-1;");
        Check.due("end(21)", x.end(21), true);
        Check.due("book()", x.book(), -1);
        Check.due("fault(1)", x.fault(1), 21);
    }

    private static void statementsOfABook() {
        Texts.right(1, Texts.rules(1));
        Texts.right(1, Texts.sets(1));
        Texts.right(12, Texts.rules(6) + Texts.sets(6));
    }

    private static void bookWithoutAStatement() {
        Texts.fault(1, "^");
        Texts.fault(1, " ^");
        Texts.fault(1, "\n \n^");
        Refusal.none("book() of nothing", Refusal.TEXT, y -> Check.book(y, ""));
        Refusal.none("book() of blanks", Refusal.TEXT, y -> Check.book(y, "  "));
        FeastRules x = new FeastRules();
        x.book();
        Check.due("fault(0)", x.fault(0), 1);
        Check.due("fault(1)", x.fault(1), 0);
    }

    private static void allStaysWithAFault() {
        String right = "set n is day 2000-1-1;rule m every 1 days from 2000-1-1;";
        String[] faulty = {right + "x", right + "set o is n later 0;", right + "set n is n;", right + "set o is day 2000-1-1,2000-1-1;",
            right + "set o is (((((((n)))))));"};
        for (int i = 0; i < faulty.length; i++) {
            String text = faulty[i];
            int fault = i + 1;
            Refusal.none("book() of " + text, Refusal.TEXT, y -> Check.book(y, text));
            FeastRules x = Refusal.used();
            Check.book(x, text);
            Check.due("fault(0) of " + text, x.fault(0), fault);
        }
    }

    private static void newBookIsFresh() {
        FeastRules x = Refusal.used();
        Check.due("book()", Check.book(x, "rule a every 2 days from 2000-1-1 until 2000-3-31;set s is a;set t is s later 1;"), 3);
        int[] want = {1, 2, 0, 0, 0, 0};
        for (int i = 0; i < 6; i++) {
            Check.due("has(" + i + ")", x.has(i), want[i]);
        }
        Check.due("nothing ADDED", x.on(6, 1), 0);
        Check.due("nothing LEFT OUT", x.on(7, 3), 1);
        Check.due("nothing SEEN", x.fits(-1), -1);
        Check.due("nothing can be undone", x.undo(), false);
        Check.due("the N of the text", x.rule(0, 0), 2);
        Check.due("no rule of the book ahead", x.rule(1, 0), -1);
        Check.due("no set of the book ahead", x.on(8, 0), -1);
        for (String part : new String[] {"", " in 3", " on 3,-3", " by 1 fri", " by fri on 7", " at 1", " until 2001-1-1", " count 4"}) {
            freshBehindOthers("rule a every 1 months from 2000-1-31" + part + ";set s is a;set t is s or a;");
        }
        FeastRules sets = Check.made("set s is day 2000-1-1;set t is day 2000-1-2;");
        Check.days(sets, 7, 1);
        Check.due("a book of sets alone", Check.book(sets, "set s is day 2000-1-3;set t is s later 1;"), 2);
        Check.days(sets, 6, 2);
        Check.days(sets, 7, 3);
    }

    /** A book is as on a new object, also behind two others and one with a fault that have all there is. */
    private static void freshBehindOthers(String text) {
        String rich = "rule a every 1 years from 2000-1-1 in 1,2 on 1,-1,2 by sat,1 sun,-1 mon at 1,2,-1 until 2000-3-1 count 2;"
            + "set s is a or day 2000-1-9;set t is s later 2;";
        FeastRules x = Check.made(rich);
        Check.due("days of a book ahead", x.many(8, 0, 14609), -1);
        Check.due("days of a book ahead", x.many(7, 0, 14609) > 0, true);
        Check.book(x, rich);
        Check.due("with a fault", Check.book(x, rich + "x"), -1);
        Check.due("book() of " + text, Check.book(x, text), 3);
        FeastRules fresh = Check.made(text);
        for (int what = 0; what < 9; what++) {
            Check.due("rule(0, " + what + ") of " + text, x.rule(0, what), fresh.rule(0, what));
        }
        for (int what : new int[] {0, 6, 7}) {
            Check.due("sum(" + what + ") of " + text, x.sum(what), fresh.sum(what));
        }
    }

    private static void seedStaysWithABook() {
        FeastRules x = new FeastRules();
        Check.due("seed", x.seed(123456), true);
        for (int i = 0; i < 2; i++) {
            Check.book(x, i == 0 ? "x" : "set a is day 2000-1-1;");
        }
        FeastRules y = Check.made("set a is day 2000-1-1;");
        y.seed(123456);
        Check.due("chance", x.chance(3), y.chance(3));
        Check.due("days", x.sum(6), y.sum(6));
        Check.due("another book", Check.book(x, "set a is day 2000-1-1;"), 1);
        Check.due("another book", Check.book(y, "set a is day 2000-1-1;"), 1);
        Check.due("chance", x.chance(3), y.chance(3));
        Check.due("days", x.sum(6), y.sum(6));
        FeastRules z = Check.made("set a is day 2000-1-1;");
        z.seed(123456);
        z.chance(6);
        for (int k = 0; k < 3; k++) {
            Check.due("a day of the six", z.on(6, x.nth(6, k)), 1);
        }
    }

    /** Texts.sets(6) has day 0 in each set: one is added to each, and that one is left out. */
    private static void sixSetsAreFresh() {
        FeastRules x = Check.made(Texts.sets(6));
        for (int set = 0; set < 6; set++) {
            Check.due("add(" + set + ", 9)", x.add(set, 9), true);
            Check.due("leave(" + set + ", 0)", x.leave(set, 0), true);
        }
        Check.due("ADDED", x.has(2), 6);
        Check.due("LEFT OUT", x.has(3), 6);
        Check.due("book()", Check.book(x, Texts.sets(6)), 6);
        Check.due("nothing ADDED", x.has(2), 0);
        Check.due("nothing LEFT OUT", x.has(3), 0);
        for (int set = 0; set < 6; set++) {
            Check.days(x, 6 + set, 0);
        }
    }

    private static void nothingOfOlderBooks() {
        String[] sums = {"a", "a later 1", "a later 1 sooner 2 later 3", "a off b", "(a or b) and (b or a less b) off a", "day 2000-1-7",
            "day 2000-1-1,2000-1-2,2000-1-3 later 9", "a or b or a or b", "a less b sooner 99"};
        for (String one : sums) {
            for (String other : sums) {
                FeastRules x = Check.made(ofTwoRules(one));
                // A short one lies where a longer one was, whichever of the two ahead it was.
                for (String sum : new String[] {other, "a", one, "b", other}) {
                    Check.book(x, ofTwoRules(sum));
                    Check.due(sum + " behind " + one + " and " + other, x.sum(6), Check.made(ofTwoRules(sum)).sum(6));
                }
            }
        }
    }

    private static String ofTwoRules(String sum) {
        return "rule a every 2 days from 2000-1-5 count 9;rule b every 3 days from 2000-1-4 count 9;set s is " + sum + ";";
    }

    private static void tapeGoesWithABook() {
        FeastRules x = new FeastRules();
        Check.due("book()", Check.book(x, "set a is day 2000-1-1;"), 1);
        Check.due("end(1): the tape is empty", x.end(1), false);
        Check.due("book() of the empty tape", x.book(), -1);
        Check.due("book() with a fault", Check.book(x, "set"), -1);
        Check.due("end(1): the tape is empty", x.end(1), false);
        Check.due("feed", x.feed(0, 0, 0, 0, 0), 20);
    }

    private static void faultOfTheLatestBook() {
        FeastRules x = new FeastRules();
        Check.due("fault(0) ahead of any", x.fault(0), 0);
        Check.due("fault(1) ahead of any", x.fault(1), -1);
        Check.book(x, "set a");
        Check.due("fault(0)", x.fault(0), 1);
        Check.due("fault(1)", x.fault(1), 5);
        Check.book(x, "set a is day 2000-1-32;");
        Check.due("fault(0) of the latest", x.fault(0), 2);
        Check.due("fault(1) of the latest", x.fault(1), 20);
        Check.book(x, "set a is day 2000-1-31;");
        Check.due("fault(0) without", x.fault(0), 0);
        Check.due("fault(1) without", x.fault(1), -1);
        Check.book(x, "x");
        Check.due("see() is no book()", x.see(0), -1);
        Check.due("fault(0) behind see()", x.fault(0), 1);
        Check.due("fault(1) behind see(), at the first byte", x.fault(1), 0);
    }

    private static void faultOfAnotherWhat() {
        FeastRules x = new FeastRules();
        Check.book(x, "set a is day 2000-1-32;");
        for (int what : new int[] {MIN, -1, 2, MAX}) {
            Check.due("fault(" + what + ")", x.fault(what), -1);
        }
        Check.due("fault(0)", x.fault(0), 2);
        Check.due("fault(1)", x.fault(1), 20);
    }

    private static void hasOfOthers() {
        FeastRules x = Refusal.used();
        int[] want = {2, 2, 1, 1, 2, 3};
        for (int what = 0; what < 6; what++) {
            Check.due("has(" + what + ")", x.has(what), want[what]);
        }
        for (int what : new int[] {MIN, -1, 6, MAX}) {
            Check.due("has(" + what + ")", x.has(what), -1);
        }
    }

    private static void mostThatItHas() {
        FeastRules x = Check.made(Texts.rules(6) + Texts.sets(6));
        Check.due("RULES", x.has(0), 6);
        Check.due("SETS", x.has(1), 6);
        for (int set = 0; set < 6; set++) {
            for (int i = 0; i < 20; i++) {
                x.add(set, 100 + i);
            }
            Check.due("ADDED, of all SETS", x.has(2), 20 * (set + 1));
            x.leave(set, 0);
            Check.due("LEFT OUT, of all SETS", x.has(3), set + 1);
        }
        Check.due("rows SEEN", Check.see(x, 5, new int[24]), 12);
        Check.due("rows SEEN", x.has(4), 12);
        Check.due("ACTS", x.has(5), 20);
    }

    private static void lettersOfANameAndBehindIt() {
        FeastRules x = Check.made(BOOK);
        int[][] want = {{1, 2, 0, 0, 0, 0}, {1, 2, 3, 4, 5, 6}, {26, 25, 24, 23, 22, 0}, {17, 0, 0, 0, 0, 0}};
        int[] whats = {0, 1, 6, 7};
        for (int i = 0; i < 4; i++) {
            for (int k = 0; k < 6; k++) {
                Check.due("letter(" + whats[i] + ", " + k + ")", x.letter(whats[i], k), want[i][k]);
            }
            for (int k : new int[] {MIN, -1, 6, MAX}) {
                Check.due("letter(" + whats[i] + ", " + k + ")", x.letter(whats[i], k), -1);
            }
        }
        for (int what : new int[] {MIN, -1, 2, 5, 8, 11, 12, MAX}) {
            Check.due("letter(" + what + ", 0)", x.letter(what, 0), -1);
        }
    }

    private static void lettersOfTwelveNames() {
        FeastRules x = Check.made(Texts.rules(6) + Texts.sets(6));
        for (int i = 0; i < 6; i++) {
            Check.due("letter(" + i + ", 0)", x.letter(i, 0), i + 1);
            Check.due("letter(" + (6 + i) + ", 1)", x.letter(6 + i, 1), i + 1);
        }
        Check.due("letter(12, 0)", x.letter(12, 0), -1);
        Check.due("letter(-1, 0)", x.letter(-1, 0), -1);
    }

    private static void whatARuleTells() {
        FeastRules x = Check.made(BOOK);
        int[] want = {7, 1, 4, 1 << 2 | 1 << 12, 2, 3, 4, 8, 12};
        int[] bare = {1, 0, 0, 0, 0, 0, 0, -1, -1};
        for (int what = 0; what < 9; what++) {
            Check.due("rule(0, " + what + ")", x.rule(0, what), want[what]);
            Check.due("rule(1, " + what + "), without", x.rule(1, what), bare[what]);
        }
        for (int what : new int[] {MIN, -1, 9, MAX}) {
            Check.due("rule(0, " + what + ")", x.rule(0, what), -1);
        }
        for (int rule : new int[] {MIN, -1, 2, 5, 6, MAX}) {
            Check.due("rule(" + rule + ", 0)", x.rule(rule, 0), -1);
        }
        Check.due("bits of all eight", Check.made(Texts.R + " in 12,11,10,9,4,3,2,1;").rule(0, 3), 0x1e1e);
    }

    private static void daysOfDates() {
        FeastRules x = new FeastRules();
        Check.due("the first", x.day(2000, 1, 1), 0);
        Check.due("the last", x.day(2039, 12, 31), 14609);
        for (int year : new int[] {MIN, -1, 0, 39, 1999, 2040, MAX}) {
            Check.due("year " + year, x.day(year, 1, 1), -1);
        }
        for (int month : new int[] {MIN, -1, 0, 13, MAX}) {
            Check.due("month " + month, x.day(2000, month, 1), -1);
        }
        for (int month = 1; month <= 12; month++) {
            for (int year : new int[] {2000, 2001, 2036, 2039}) {
                LocalDate first = LocalDate.of(year, month, 1);
                int length = first.lengthOfMonth();
                int day = Check.dayOf(year, month, 1);
                Check.due("first of " + first, x.day(year, month, 1), day);
                Check.due("last of " + first, x.day(year, month, length), day + length - 1);
                Check.due("none behind " + first, x.day(year, month, length + 1), -1);
                Check.due("none ahead of " + first, x.day(year, month, 0), -1);
            }
        }
        for (int date : new int[] {MIN, -1, MAX}) {
            Check.due("date " + date, x.day(2000, 1, date), -1);
        }
    }

    private static void datesOfDays() {
        FeastRules x = new FeastRules();
        for (int day : new int[] {MIN, -1, 14610, MAX}) {
            for (int of = 0; of < 6; of++) {
                Check.due("date(" + day + ", " + of + ")", x.date(day, of), -1);
            }
        }
        for (int of : new int[] {MIN, -1, 6, MAX}) {
            Check.due("date(0, " + of + ")", x.date(0, of), -1);
            Check.due("date(14609, " + of + ")", x.date(14609, of), -1);
        }
        int[] days = {0, 59, 60, 365, 366, 366 + 58, 366 + 59, 366 + 364, 366 + 365, 14609};
        for (int day : days) {
            LocalDate date = LocalDate.of(2000, 1, 1).plusDays(day);
            int[] want = {date.getYear(), date.getMonthValue(), date.getDayOfMonth(), date.getDayOfWeek().getValue() - 1, date.getDayOfYear(),
                date.lengthOfMonth()};
            for (int of = 0; of < 6; of++) {
                Check.due("date(" + day + ", " + of + ")", x.date(day, of), want[of]);
            }
        }
    }
}
