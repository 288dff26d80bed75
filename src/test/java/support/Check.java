import java.nio.charset.StandardCharsets;
import java.time.LocalDate;
import java.time.temporal.ChronoUnit;

/** Counts answers that are not the ones that are due. */
final class Check {
    private static int wrong = 0;
    private static int asked = 0;

    private Check() {
    }

    static void due(String call, long got, long want) {
        asked++;
        if (got != want) {
            wrong++;
            if (wrong <= 50) {
                System.out.println(call + " answered " + got + ", due is " + want);
            }
        }
    }

    static void due(String call, boolean got, boolean want) {
        due(call, got ? 1 : 0, want ? 1 : 0);
    }

    static int wrong() {
        return wrong;
    }

    static int asked() {
        return asked;
    }

    /** Ends a test: exit code 1 if an answer was wrong, or if nothing was asked. */
    static void close(String test) {
        System.out.println(test + ": " + asked + " answers, " + wrong + " wrong");
        if (wrong != 0 || asked == 0) {
            System.exit(1);
        }
    }

    /** The tape has these bytes alone. */
    static void tape(FeastRules x, byte[] bytes) {
        x.end(0);
        for (int i = 0; i < bytes.length; i += 20) {
            int[] five = new int[5];
            for (int k = 0; k < 20; k++) {
                int b = i + k < bytes.length ? bytes[i + k] & 255 : 32;
                five[k / 4] = five[k / 4] << 8 | b;
            }
            x.feed(five[0], five[1], five[2], five[3], five[4]);
        }
        x.end(bytes.length);
    }

    static void tape(FeastRules x, String text) {
        tape(x, text.getBytes(StandardCharsets.ISO_8859_1));
    }

    static int book(FeastRules x, String text) {
        tape(x, text);
        return x.book();
    }

    /** An object with a book that has no fault. */
    static FeastRules made(String text) {
        FeastRules x = new FeastRules();
        int statements = book(x, text);
        if (statements < 1) {
            due("book() of \"" + text + "\" (fault " + x.fault(0) + " at " + x.fault(1) + ")", statements, 1);
        }
        return x;
    }

    /** What is asked has just these days, by each way of telling them. */
    static void days(FeastRules x, int what, int... want) {
        due("many(" + what + ")", x.many(what, 0, 14609), want.length);
        int behind = -1;
        for (int k = 0; k < want.length; k++) {
            due("nth(" + what + ", " + k + ")", x.nth(what, k), want[k]);
            due("next(" + what + ", " + behind + ")", x.next(what, behind), want[k]);
            due("on(" + what + ", " + want[k] + ")", x.on(what, want[k]), 1);
            behind = want[k];
        }
        due("next(" + what + ", " + behind + ")", x.next(what, behind), -1);
    }

    /** The first days of what is asked, told as year, month, date in one number each. */
    static void dates(FeastRules x, int what, int... want) {
        for (int k = 0; k < want.length; k++) {
            int day = x.nth(what, k);
            int got = x.date(day, 0) * 10000 + x.date(day, 1) * 100 + x.date(day, 2);
            due("date of nth(" + what + ", " + k + ")", got, want[k]);
        }
    }

    /** The day of a date, by the library's calendar. */
    static int dayOf(int year, int month, int date) {
        return (int) ChronoUnit.DAYS.between(LocalDate.of(2000, 1, 1), LocalDate.of(year, month, date));
    }

    /** see() of rows of a day and whether it is of the rule. */
    static int see(FeastRules x, int rule, int... rows) {
        byte[] bytes = new byte[rows.length / 2 * 3];
        for (int i = 0; i < rows.length / 2; i++) {
            bytes[i * 3] = (byte) (rows[i * 2] >> 8);
            bytes[i * 3 + 1] = (byte) rows[i * 2];
            bytes[i * 3 + 2] = (byte) rows[i * 2 + 1];
        }
        tape(x, bytes);
        return x.see(rule);
    }
}
