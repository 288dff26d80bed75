/** Boundary cases of promises 22 to 24, and of SEEN, FITS and TELLING (terms, III). */
public final class EdgeSightTest {
    private static final int MIN = Integer.MIN_VALUE;
    private static final int MAX = Integer.MAX_VALUE;
    private static final int LAST = 14609;

    public static void main(String[] args) throws ReflectiveOperationException {
        Edges.run(EdgeSightTest.class);
    }

    /** An object of which rows of a day, 1 or 0, were seen of its first rule. */
    private static FeastRules seen(String rest, int... rows) {
        FeastRules x = Check.made("rule r every " + rest + ";");
        Check.due("see()", Check.see(x, 0, rows), rows.length / 2);
        return x;
    }

    private static void fits(FeastRules x, int... want) {
        Check.due("fits(-1)", x.fits(-1), want.length);
        for (int k = 0; k < want.length; k++) {
            Check.due("fits(" + k + ")", x.fits(k), want[k]);
        }
        Check.due("fits(" + want.length + ")", x.fits(want.length), -1);
    }

    private static void tells(FeastRules x, int day, int left) {
        Check.due("tells(0)", x.tells(0), day);
        Check.due("tells(1)", x.tells(1), left);
    }

    private static void rowsToldByTheTape() {
        for (int rows = 1; rows <= 12; rows++) {
            FeastRules x = Refusal.used();
            Check.due("see() of " + rows, Check.see(x, 0, new int[rows * 2]), rows);
            Check.due("has(4)", x.has(4), rows);
            Check.due("status(1)", x.status(1), 1);
            Check.due("the tape goes", x.feed(0, 0, 0, 0, 0), 20);
        }
        Refusal.none("see() of no rows", Refusal.TEXT, y -> Check.see(y, 0));
        Refusal.none("see() of 13 rows", Refusal.TEXT, y -> Check.see(y, 0, new int[26]));
    }

    private static void rowsOfThreeBytes() {
        for (int bytes : new int[] {1, 2, 4, 5, 34, 35, 37, 38, 1600}) {
            Refusal.none("see() of " + bytes + " bytes", Refusal.TEXT, y -> {
                Check.tape(y, new byte[bytes]);
                return y.see(0);
            });
        }
        FeastRules x = Refusal.used();
        Check.tape(x, new byte[36]);
        Check.due("see() of 36 bytes", x.see(0), 12);
    }

    private static void daysOfRows() {
        for (int day : new int[] {0, 255, 256, LAST}) {
            FeastRules x = Refusal.used();
            Check.due("see() of day " + day, Check.see(x, 0, day, 0), 1);
            Check.due("has(4)", x.has(4), 1);
        }
        for (int day : new int[] {14610, 14848, 32768, 65535}) {
            Refusal.none("see() of day " + day, Refusal.TEXT, y -> Check.see(y, 0, day, 0));
            Refusal.none("see() of day " + day + " as the second", Refusal.TEXT, y -> Check.see(y, 0, 5, 1, day, 0));
        }
        // The higher byte first: 256 is day 256, not day 1.
        fits(seen("1 days from 2000-1-1", 256, 1, 1, 0), 2, 4, 8, 16, 32);
    }

    private static void lastByteOfRows() {
        Check.due("see() of 0 and 1", Check.see(Refusal.used(), 0, 5, 0, 6, 1), 2);
        for (int held : new int[] {2, 127, 128, 255}) {
            Refusal.none("see() of " + held, Refusal.TEXT, y -> Check.see(y, 0, 5, held));
            Refusal.none("see() of " + held + " as the last", Refusal.TEXT, y -> Check.see(y, 0, 5, 1, 6, 0, 7, held));
        }
    }

    private static void rulesThatAreSeen() {
        FeastRules all = Check.made(Texts.rules(6) + Texts.sets(1));
        Check.due("see(0)", Check.see(all, 0, 0, 1), 1);
        Check.due("see(5)", Check.see(all, 5, 0, 1), 1);
        for (int rule : new int[] {MIN, -1, 2, 5, 6, 11, 12, MAX}) {
            Refusal.none("see(" + rule + ")", Refusal.TEXT, y -> Check.see(y, rule, 5, 1));
        }
        Check.due("see(6), a set", Check.see(all, 6, 0, 1), -1);
        Check.due("has(4) stays", all.has(4), 1);
    }

    private static void newRowsInPlaceOfOld() {
        FeastRules x = seen("1 days from 2000-1-1", 60, 1, 30, 0, 12, 1);
        fits(x, 4, 12);
        Check.due("see() anew", Check.see(x, 0, 7, 1), 1);
        Check.due("has(4)", x.has(4), 1);
        fits(x, 1, 7);
        Check.due("see() refused", Check.see(x, 0, 7, 2), -1);
        fits(x, 1, 7);
    }

    private static void placesOfFits() {
        FeastRules x = seen("1 days from 2000-1-1", 12, 1);
        fits(x, 1, 2, 3, 4, 6, 12);
        for (int k : new int[] {MIN, -2, 6, 60, MAX}) {
            Check.due("fits(" + k + ")", x.fits(k), -1);
        }
        Check.due("fits(5)", x.fits(5), 12);
    }

    private static void nothingFits() {
        FeastRules x = seen("1 days from 2000-1-2", 0, 1);
        fits(x);
        for (int k : new int[] {MIN, -2, 0, 1, MAX}) {
            Check.due("fits(" + k + ")", x.fits(k), -1);
        }
        fits(seen("1 days from 2000-1-1", 5, 1, 5, 0));
    }

    private static void nothingSeen() {
        FeastRules x = Check.made(Texts.rules(1));
        for (int k : new int[] {MIN, -2, -1, 0, 1, MAX}) {
            Check.due("fits(" + k + ")", x.fits(k), -1);
            Check.due("tells(" + k + ")", x.tells(k), -1);
        }
        FeastRules none = new FeastRules();
        Check.due("fits(-1) without a book", none.fits(-1), -1);
        Check.due("tells(0) without a book", none.tells(0), -1);
    }

    private static void stepsUpToSixty() {
        FeastRules all = seen("99 days from 2000-1-1", 0, 1);
        Check.due("all", all.fits(-1), 60);
        Check.due("the first", all.fits(0), 1);
        Check.due("the last", all.fits(59), 60);
        fits(seen("1 days from 2000-1-1", 60, 1, 30, 0, 20, 0, 12, 0), 60);
        fits(seen("1 days from 2000-1-1", 61, 1, 1, 0));
        fits(seen("1 days from 2000-1-1", 59, 1, 1, 0), 59);
        fits(seen("99 days from 2000-1-1", 99, 1, 33, 0), 9);
    }

    private static void seenByAllTheRulesParts() {
        // Ahead of the beginning, behind until and behind the last of count a day is of no rule.
        fits(seen("1 days from 2000-1-5", 3, 1));
        Check.due("a day that is not", seen("1 days from 2000-1-5", 3, 0).fits(-1), 60);
        fits(seen("1 days from 2000-1-1 until 2000-1-10", 9, 1), 1, 3, 9);
        fits(seen("1 days from 2000-1-1 until 2000-1-10", 10, 1));
        fits(seen("1 days from 2000-1-1 count 3", 2, 1), 1, 2);
        fits(seen("1 days from 2000-1-1 count 3", 4, 1), 2, 4);
        fits(seen("1 weeks from 2000-1-3", 9, 1), 1);
        fits(seen("1 months from 2000-1-31", 151, 1), 1, 2, 4);
        fits(seen("1 years from 2000-2-29", 59 + 1461, 1), 1, 2, 4);
    }

    private static void tellsOfOthers() {
        FeastRules x = seen("1 days from 2000-1-1", 12, 1, 6, 0);
        fits(x, 4, 12);
        tells(x, 4, 1);
        for (int what : new int[] {MIN, -1, 2, MAX}) {
            Check.due("tells(" + what + ")", x.tells(what), -1);
        }
    }

    private static void tellsWithoutFits() {
        FeastRules x = seen("1 days from 2000-1-2", 0, 1);
        tells(x, -1, -1);
        tells(seen("1 days from 2000-1-1", 0, 1, 2, 1, 1, 0, 4, 0), -1, -1);
    }

    private static void tellsOfTheFirstRowsYear() {
        // Steps 1 and 2 are left: 2000-01-02 tells.
        tells(seen("1 days from 2000-1-1", 2, 1), 1, 1);
        // 56 steps are left; of days 366 .. 730 it is 720 that most of these, 17, divide.
        tells(seen("1 days from 2000-1-1", 366, 0), 720, 39);
        // 7 goes, too: it divides 14609.
        tells(seen("1 days from 2000-1-1", 366, 0, 0, 1, 14609, 0), 720, 38);
        // 17 and 25 are left, as by the first row or by another; the year is another one.
        tells(seen("1 days from 2000-1-1", 425, 1, 424, 0, 420, 0), 374, 1);
        tells(seen("1 days from 2000-1-1", 0, 1, 425, 1, 424, 0, 420, 0), 17, 1);
    }

    private static void tellsByTheMostThatAreLeft() {
        // 1, 2, 3, 4, 6, 12 are left. Day 1 is of 1 alone, and five are left if it is not; day 2 and 3 are of two, day 4 of three.
        tells(seen("1 days from 2000-1-1", 12, 1), 4, 3);
        // Without 1 it is of two, and three are left if it is not; day 6 is of three, but behind it.
        FeastRules x = seen("1 days from 2000-1-1", 60, 1, 12, 1, 5, 0);
        fits(x, 2, 3, 4, 6, 12);
        tells(x, 4, 3);
        // Two left, and a day that is of one of them; three left, and no day halves them.
        tells(seen("1 days from 2000-1-1", 9, 1, 1, 0), 3, 1);
        FeastRules three = seen("1 days from 2000-1-1", 8, 1, 1, 0);
        fits(three, 2, 4, 8);
        tells(three, 2, 2);
    }

    private static void tellsOnTheFirstAndLastDayOfAYear() {
        // 2001-01-01 is of some steps by years and of no day else of 2001.
        tells(seen("1 years from 2000-1-1", 366 + 30, 0), 366, 59);
        tells(seen("1 years from 2000-12-31", 366, 0), 366 + 364, 59);
        tells(seen("1 years from 2000-12-31", 366 + 365 * 3, 0), 366 + 365 * 3 + 365, 57);
        tells(seen("1 years from 2000-12-31", LAST - 5, 0), LAST, 56);
        tells(seen("1 years from 2000-1-1", 5, 0), 0, 60);
    }

    private static void tellsTheFirstOfLikeOnes() {
        // No day tells: the first one of the year.
        tells(seen("1 days from 2000-1-1 count 1", 0, 1), 0, 60);
        tells(seen("1 days from 2039-12-31", LAST, 1), LAST - 364, 60);
        // One step is left: each day leaves it.
        tells(seen("1 days from 2000-1-1", 59, 1, 1, 0), 0, 1);
    }

    private static void seenStays() {
        FeastRules x = seen("5 days from 2000-1-1", 12, 1);
        Check.due("every", x.every(0, 7), true);
        Check.due("has(4) behind every()", x.has(4), 1);
        fits(x, 1, 2, 3, 4, 6, 12);
        Check.due("undo", x.undo(), true);
        Check.due("has(4) behind undo()", x.has(4), 1);
        fits(x, 1, 2, 3, 4, 6, 12);
        Check.due("undo refused", x.undo(), false);
        fits(x, 1, 2, 3, 4, 6, 12);
        // FITS are of the rule as it is: by another beginning they are others.
        Check.due("from", x.from(0, 3), true);
        Check.due("has(4) behind from()", x.has(4), 1);
        fits(x, 1, 3, 9);
        tells(x, 4, 2);
        Check.due("undo", x.undo(), true);
        Check.due("has(4) behind undo()", x.has(4), 1);
        fits(x, 1, 2, 3, 4, 6, 12);
    }
}
