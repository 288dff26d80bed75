/** What sets have as days (terms, II). */
public final class SetDaysTest {
    private static final String BOOK = "rule a every 1 days from 2000-1-3 count 3;rule b every 2 days from 2000-1-1 count 4;";

    public static void main(String[] args) {
        sums();
        edges();
        off();
        ofOneAnother();
        deep();
        longest();
        Check.close("SetDaysTest");
    }

    private static void days(String sum, int... want) {
        Check.days(Check.made(BOOK + "set s is " + sum + ";"), 6, want);
    }

    private static void sums() {
        days("a", 2, 3, 4);
        days("b", 0, 2, 4, 6);
        days("a or b", 0, 2, 3, 4, 6);
        days("a and b", 2, 4);
        days("a less b", 3);
        days("b less a", 0, 6);
        days("day 2000-1-9,2000-1-2,2000-1-5", 1, 4, 8);
        // and, less from the left, ahead of or; later, sooner, off ahead of these.
        days("b less a and b", 0, 6);
        days("b less (a and b)", 0, 6);
        days("b and a less a or a", 2, 3, 4);
        days("a or b less a", 0, 2, 3, 4, 6);
        days("(a or b) less a", 0, 6);
        days("b less a less day 2000-1-1", 6);
        days("b less (a less day 2000-1-3)", 0, 2, 6);
        days("a or b later 10", 2, 3, 4, 10, 12, 14, 16);
        days("(a or b) later 10", 10, 12, 13, 14, 16);
        days("a less a later 1", 2);
        days("a later 1 less a", 5);
        days("a later 2 sooner 1", 3, 4, 5);
        days("day 2000-1-3,2000-1-4 later 1 or day 2000-1-1", 0, 3, 4);
    }

    private static void edges() {
        days("b sooner 1", 1, 3, 5);
        days("b sooner 3 later 3", 4, 6);
        days("day 2000-1-1,2039-12-31 later 1", 1);
        days("day 2000-1-1,2039-12-31 sooner 1", 14608);
        days("day 2039-12-31,2039-12-30 later 1 sooner 1", 14608);
        days("day 2000-1-1,2000-3-9 later 64", 64, 132);
        days("day 2000-1-1,2000-4-8 later 99", 99, 197);
        days("day 2000-1-1,2000-3-9,2000-3-5 sooner 64", 0, 4);
        days("day 2000-4-9,2000-4-8 sooner 99", 0);
        days("day 2000-3-15,2000-3-4 sooner 20", 43, 54);
        days("day 2000-5-8,2000-5-7 sooner 70", 57, 58);
        days("day 2000-2-28 later 20", 78);
        days("a and day 2000-1-1");
    }

    private static void off() {
        days("b off a", 0, 5, 6);
        days("a off a", 5);
        days("a off b", 3, 5);
        days("day 2000-1-3,2000-1-10 off a", 5, 9);
        days("day 2000-1-3 off a off b", 5);
        days("day 2000-1-3 off a later 1 off b", 7);
        Check.days(Check.made("rule z every 1 days from 2039-12-1;rule y every 1 days from 2039-12-30;set s is z off y;set t is y off z;"), 7);
        Check.due("days kept", Check.made("rule z every 1 days from 2039-12-1;rule y every 1 days from 2039-12-30;set s is z off y;").nth(6, -1), 14607);
        Check.days(Check.made("rule z every 1 days from 2000-1-1;set s is day 2000-1-1 off z;"), 6);
        Check.days(Check.made("rule z every 1 days from 2000-1-1 until 2039-12-30;set s is day 2000-1-1 off z;"), 6, 14609);
    }

    private static void ofOneAnother() {
        FeastRules x = Check.made(BOOK + "set s is a;set t is s later 10;set u is t or s off t;");
        Check.days(x, 8, 2, 3, 4, 12, 13, 14);
        Check.due("add", x.add(0, 1), true);
        Check.days(x, 6, 1, 2, 3, 4);
        Check.days(x, 7, 11, 12, 13, 14);
        Check.due("leave", x.leave(1, 12), true);
        Check.days(x, 7, 11, 13, 14);
        Check.days(x, 8, 1, 2, 3, 4, 11, 13, 14);
        Check.due("every", x.every(0, 5), true);
        Check.days(x, 6, 1, 2, 7, 12);
        Check.days(x, 7, 11, 17, 22);
        Check.days(x, 8, 1, 2, 7, 11, 12, 17, 22);
    }

    private static void deep() {
        days("a or b and(b or a and(a or b and(b or a and(a or b and(b or a and(a or b and a)))))) ", 0, 2, 3, 4, 6);
        days("b or b and(b or b and(b or b and(b or b and(b or b and(b or b and(b or b and b less a))))))", 0, 2, 4, 6);
        FeastRules x = Check.made("rule u every 1 days from 2000-1-1;set s is day 2000-1-1 or u and(day 2000-1-2 or u and(day 2000-1-3 or u and("
            + "day 2000-1-4 or u and(day 2000-1-5 or u and(day 2000-1-6 or u and(day 2000-1-7 or u and day 2000-1-8 or day 2000-1-10))))));");
        Check.days(x, 6, 0, 1, 2, 3, 4, 5, 6, 7, 9);
        days("((((((a))))))or((((((b))))))", 0, 2, 3, 4, 6);
    }

    /** As many steps as a tape can tell: none is lost at its end. */
    private static void longest() {
        String end = " or day 2039-12-31;";
        StringBuilder text = new StringBuilder(BOOK + "set s is a");
        for (int i = 0; text.length() + end.length() + 5 <= 1600; i++) {
            text.append(i % 2 == 0 ? " or b" : " or a");
        }
        Check.days(Check.made(text + end), 6, 0, 2, 3, 4, 6, 14609);
    }
}
