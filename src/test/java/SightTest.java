/** Promises 22 to 24: what was seen, the steps that explain it, the day that tells most. */
public final class SightTest {
    private static final String BOOK = "rule a every 5 days from 2000-1-3;rule b every 1 days from 2001-1-1 count 2;set s is a;";

    public static void main(String[] args) {
        seeing();
        fitting();
        telling();
        staying();
        Check.close("SightTest");
    }

    private static void seeing() {
        FeastRules x = Check.made(BOOK);
        Check.due("fits(-1), nothing seen", x.fits(-1), -1);
        Check.due("fits(0), nothing seen", x.fits(0), -1);
        Check.due("tells(0), nothing seen", x.tells(0), -1);
        Check.due("see of nothing", x.see(0), -1);
        int[] twelve = new int[24];
        Check.due("see of twelve", Check.see(x, 0, twelve), 12);
        Check.due("has(4)", x.has(4), 12);
        Check.due("see of thirteen", Check.see(x, 0, new int[26]), -1);
        Check.due("has(4) stays", x.has(4), 12);
        Check.due("see of one", Check.see(x, 0, 14609, 0), 1);
        Check.due("see of day 14610", Check.see(x, 0, 14610, 0), -1);
        Check.due("see of day 65535", Check.see(x, 0, 65535, 0), -1);
        Check.due("see of 2", Check.see(x, 0, 5, 1, 7, 2), -1);
        Check.due("see of 255", Check.see(x, 0, 5, 255), -1);
        Check.tape(x, new byte[4]);
        Check.due("see of four bytes", x.see(0), -1);
        Check.tape(x, new byte[2]);
        Check.due("see of two bytes", x.see(0), -1);
        for (int rule : new int[] {-1, 2, 6, Integer.MAX_VALUE, Integer.MIN_VALUE}) {
            Check.due("see of no rule", Check.see(x, rule, 5, 1), -1);
        }
        Check.due("status(1)", x.status(1), 13);
        Check.due("has(4) stays", x.has(4), 1);
        Check.due("see of the other rule", Check.see(x, 1, 366, 1, 367, 0), 2);
        Check.due("has(4)", x.has(4), 2);
    }

    private static void fitting() {
        FeastRules x = Check.made(BOOK);
        Check.see(x, 0, 2, 1);
        Check.due("all fit", x.fits(-1), 60);
        Check.due("the last", x.fits(59), 60);
        Check.due("none such", x.fits(60), -1);
        Check.due("none such", x.fits(-2), -1);
        Check.due("none such", x.fits(Integer.MIN_VALUE), -1);
        Check.due("none such", x.fits(Integer.MAX_VALUE), -1);
        Check.see(x, 0, 2 + 60, 1);
        int[] divisors = {1, 2, 3, 4, 5, 6, 10, 12, 15, 20, 30, 60};
        Check.due("divisors of 60", x.fits(-1), 12);
        for (int k = 0; k < 12; k++) {
            Check.due("divisor " + k, x.fits(k), divisors[k]);
        }
        Check.see(x, 0, 2 + 60, 1, 2 + 30, 0, 2 + 12, 1);
        int[] left = {4, 12};
        Check.due("left", x.fits(-1), 2);
        Check.due("left 0", x.fits(0), left[0]);
        Check.due("left 1", x.fits(1), left[1]);
        Check.see(x, 0, 2 + 61, 1, 2, 1);
        Check.due("61 is too far", x.fits(-1), 1);
        Check.due("1 alone", x.fits(0), 1);
        Check.see(x, 0, 1, 1);
        Check.due("none", x.fits(-1), 0);
        Check.due("none", x.fits(0), -1);
        Check.due("tells without fits", x.tells(0), -1);
        Check.due("tells without fits", x.tells(1), -1);
        Check.see(x, 0, 5, 1, 5, 0);
        Check.due("at odds", x.fits(-1), 0);
        // Count and beginning hold for every step.
        Check.see(x, 1, 366, 1, 368, 1);
        Check.due("of b", x.fits(-1), 1);
        Check.due("of b", x.fits(0), 2);
    }

    private static void telling() {
        FeastRules x = Check.made(BOOK);
        Check.see(x, 0, 2 + 60, 1, 2 + 30, 0, 2 + 12, 1);
        // 4 and 12 are left; day 6 is of the first alone.
        Check.due("tells(0)", x.tells(0), 6);
        Check.due("tells(1)", x.tells(1), 1);
        Check.due("tells(2)", x.tells(2), -1);
        Check.due("tells(-1)", x.tells(-1), -1);
        Check.see(x, 0, 2 + 1200, 1, 2 + 30, 0, 2 + 12, 1);
        Check.due("in the first row's year", x.tells(0), 1096 + 2);
        Check.due("in the first row's year", x.tells(1), 1);
        Check.see(x, 1, 14609, 0);
        Check.due("nothing tells in 2039", x.tells(0), 14245);
        Check.due("nothing tells in 2039", x.tells(1), 60);
        Check.see(x, 0, 2 + 61, 1, 2, 1);
        Check.due("one fits", x.tells(0), 0);
        Check.due("one fits", x.tells(1), 1);
        FeastRules y = Check.made("rule a every 1 years from 2001-1-1;rule b every 1 years from 2000-1-1;rule c every 1 years from 2000-12-31;");
        Check.see(y, 0, 400, 0);
        Check.due("not a day of the year behind", y.tells(0), 366);
        Check.due("not a day of the year behind", y.tells(1), 60);
        Check.see(y, 1, 762, 0);
        Check.due("the first day of a year", y.tells(0), 731);
        Check.due("the first day of a year", y.tells(1), 58);
        Check.see(y, 2, 1500, 0);
        Check.due("the last day of a leap year", y.tells(0), 1826);
        Check.due("the last day of a leap year", y.tells(1), 57);
    }

    private static void staying() {
        FeastRules x = Check.made(BOOK);
        Check.see(x, 0, 14, 1, 3, 0);
        int[] want = {2, 3, 4, 6, 12};
        for (int k = 0; k < 5; k++) {
            Check.due("fits", x.fits(k), want[k]);
        }
        Check.due("every", x.every(0, 9), true);
        Check.due("fits by another N", x.fits(-1), 5);
        Check.due("from", x.from(0, 8), true);
        Check.due("fits by another beginning", x.fits(-1), 4);
        Check.due("the first", x.fits(0), 1);
        Check.due("the last", x.fits(3), 6);
        Check.due("undo", x.undo(), true);
        Check.due("fits undone", x.fits(-1), 5);
        Check.due("has(4)", x.has(4), 2);
        Check.due("has(5)", x.has(5), 1);
        Check.due("a book with a fault", Check.book(x, "x"), -1);
        Check.due("fits stay", x.fits(-1), 5);
        Check.due("a book", Check.book(x, BOOK), 3);
        Check.due("nothing seen", x.fits(-1), -1);
        Check.due("nothing seen", x.has(4), 0);
    }
}
