import java.time.LocalDate;

/** Promises 9 and 10: days and dates, all of them. */
public final class CalendarTest {
    public static void main(String[] args) {
        FeastRules x = new FeastRules();
        LocalDate date = LocalDate.of(2000, 1, 1);
        for (int day = 0; day < 14610; day++) {
            // Eight calls a day, and an object is good for 512.
            x = day % 60 == 0 ? new FeastRules() : x;
            Check.due("day of " + date, x.day(date.getYear(), date.getMonthValue(), date.getDayOfMonth()), day);
            int[] want = {date.getYear(), date.getMonthValue(), date.getDayOfMonth(), date.getDayOfWeek().getValue() - 1,
                date.getDayOfYear(), date.lengthOfMonth(), -1};
            for (int of = 0; of < 7; of++) {
                Check.due("date(" + day + ", " + of + ")", x.date(day, of), want[of]);
            }
            date = date.plusDays(1);
        }
        wrongInputs(new FeastRules());
        Check.close("CalendarTest");
    }

    private static void wrongInputs(FeastRules x) {
        int[] extremes = {Integer.MIN_VALUE, -1, 14610, Integer.MAX_VALUE};
        for (int day : extremes) {
            Check.due("date(" + day + ", 0)", x.date(day, 0), -1);
            Check.due("date(0, " + day + ")", x.date(0, day), -1);
            Check.due("day(" + day + ", 1, 1)", x.day(day, 1, 1), -1);
            Check.due("day(2000, " + day + ", 1)", x.day(2000, day, 1), -1);
            Check.due("day(2000, 1, " + day + ")", x.day(2000, 1, day), -1);
        }
        Check.due("day(1999, 12, 31)", x.day(1999, 12, 31), -1);
        Check.due("day(2040, 1, 1)", x.day(2040, 1, 1), -1);
        Check.due("day(2000, 0, 1)", x.day(2000, 0, 1), -1);
        Check.due("day(2000, 13, 1)", x.day(2000, 13, 1), -1);
        for (int month = 1; month <= 12; month++) {
            int length = LocalDate.of(2001, month, 1).lengthOfMonth();
            Check.due("day(2001, " + month + ", 0)", x.day(2001, month, 0), -1);
            Check.due("day(2001, " + month + ", past)", x.day(2001, month, length + 1), -1);
        }
        Check.due("day(2004, 2, 30)", x.day(2004, 2, 30), -1);
    }
}
