import java.time.DayOfWeek;
import java.time.LocalDate;
import java.time.temporal.ChronoUnit;
import java.time.temporal.TemporalAdjusters;
import java.util.ArrayDeque;
import java.util.ArrayList;
import java.util.Deque;
import java.util.List;
import java.util.TreeSet;

/** The document once more, as plainly as the Java library lets one write it; the random runs compare with it. */
final class Model {
    static final LocalDate ZERO = LocalDate.of(2000, 1, 1);
    static final LocalDate LAST = LocalDate.of(2039, 12, 31);
    static final int DAYS = 14610;
    static final String[] UNITS = {"days", "weeks", "months", "years"};
    static final String[] WEEKDAYS = {"mon", "tue", "wed", "thu", "fri", "sat", "sun"};

    /** A weekday with a place, 0 without. */
    record By(int place, int weekday) { }

    static final class Rule {
        String name;
        int step;
        int unit;
        LocalDate begin;
        List<Integer> in = new ArrayList<>();
        List<Integer> on = new ArrayList<>();
        List<By> by = new ArrayList<>();
        List<Integer> at = new ArrayList<>();
        LocalDate until;
        int count = -1;

        Rule copy() {
            Rule c = new Rule();
            c.name = name;
            c.step = step;
            c.unit = unit;
            c.begin = begin;
            c.in = in;
            c.on = on;
            c.by = by;
            c.at = at;
            c.until = until;
            c.count = count;
            return c;
        }

        LocalDate periodStart(LocalDate d) {
            switch (unit) {
                case 0: return d;
                case 1: return d.with(TemporalAdjusters.previousOrSame(DayOfWeek.MONDAY));
                case 2: return d.withDayOfMonth(1);
                default: return d.withDayOfYear(1);
            }
        }

        LocalDate plus(LocalDate start, int periods) {
            switch (unit) {
                case 0: return start.plusDays(periods);
                case 1: return start.plusWeeks(periods);
                case 2: return start.plusMonths(periods);
                default: return start.plusYears(periods);
            }
        }

        /** What a period has before places are taken: made by laying out dates, not by asking each day. */
        TreeSet<LocalDate> has(LocalDate start) {
            TreeSet<LocalDate> found = new TreeSet<>();
            switch (unit) {
                case 0:
                    found.add(start);
                    found.removeIf(d -> !byTells(d) || !onTells(d) || !inTells(d));
                    break;
                case 1:
                    for (int i = 0; i < 7; i++) {
                        LocalDate d = start.plusDays(i);
                        if (by.isEmpty() ? d.getDayOfWeek() == begin.getDayOfWeek() : byTells(d)) {
                            found.add(d);
                        }
                    }
                    found.removeIf(d -> !onTells(d) || !inTells(d));
                    break;
                case 2:
                    if (in.isEmpty() || in.contains(start.getMonthValue())) {
                        found.addAll(month(start));
                    }
                    break;
                default:
                    found.addAll(year(start));
            }
            found.removeIf(d -> d.isBefore(ZERO) || d.isAfter(LAST));
            return found;
        }

        TreeSet<LocalDate> month(LocalDate start) {
            TreeSet<LocalDate> found = new TreeSet<>();
            int length = start.lengthOfMonth();
            if (!on.isEmpty()) {
                for (int p : on) {
                    int date = p > 0 ? p : length + 1 + p;
                    if (date >= 1 && date <= length && byTells(start.withDayOfMonth(date))) {
                        found.add(start.withDayOfMonth(date));
                    }
                }
            } else if (!by.isEmpty()) {
                found.addAll(among(start, length));
            } else if (begin.getDayOfMonth() <= length) {
                found.add(start.withDayOfMonth(begin.getDayOfMonth()));
            }
            return found;
        }

        TreeSet<LocalDate> year(LocalDate start) {
            TreeSet<LocalDate> found = new TreeSet<>();
            if (!in.isEmpty()) {
                for (int m : in) {
                    found.addAll(month(start.withMonth(m)));
                }
            } else if (!on.isEmpty()) {
                for (int m = 1; m <= 12; m++) {
                    found.addAll(month(start.withMonth(m)));
                }
            } else if (!by.isEmpty()) {
                found.addAll(among(start, start.lengthOfYear()));
            } else {
                LocalDate m = start.withMonth(begin.getMonthValue());
                if (begin.getDayOfMonth() <= m.lengthOfMonth()) {
                    found.add(m.withDayOfMonth(begin.getDayOfMonth()));
                }
            }
            return found;
        }

        TreeSet<LocalDate> among(LocalDate start, int length) {
            TreeSet<LocalDate> found = new TreeSet<>();
            for (By b : by) {
                List<LocalDate> all = new ArrayList<>();
                for (int i = 0; i < length; i++) {
                    if (start.plusDays(i).getDayOfWeek().getValue() == b.weekday() + 1) {
                        all.add(start.plusDays(i));
                    }
                }
                if (b.place() == 0) {
                    found.addAll(all);
                } else {
                    int i = b.place() > 0 ? b.place() - 1 : all.size() + b.place();
                    if (i >= 0 && i < all.size()) {
                        found.add(all.get(i));
                    }
                }
            }
            return found;
        }

        boolean inTells(LocalDate d) {
            return in.isEmpty() || in.contains(d.getMonthValue());
        }

        boolean onTells(LocalDate d) {
            return on.isEmpty() || on.contains(d.getDayOfMonth()) || on.contains(d.getDayOfMonth() - d.lengthOfMonth() - 1);
        }

        boolean byTells(LocalDate d) {
            if (by.isEmpty()) {
                return true;
            }
            for (By b : by) {
                if (b.weekday() + 1 == d.getDayOfWeek().getValue()) {
                    return true;
                }
            }
            return false;
        }

        TreeSet<LocalDate> places(TreeSet<LocalDate> all) {
            if (at.isEmpty()) {
                return all;
            }
            List<LocalDate> row = new ArrayList<>(all);
            TreeSet<LocalDate> left = new TreeSet<>();
            for (int p : at) {
                int i = p > 0 ? p - 1 : row.size() + p;
                if (i >= 0 && i < row.size()) {
                    left.add(row.get(i));
                }
            }
            return left;
        }

        TreeSet<Integer> days(int byStep) {
            TreeSet<Integer> days = new TreeSet<>();
            for (LocalDate p = periodStart(begin); !p.isAfter(LAST); p = plus(p, byStep)) {
                for (LocalDate d : places(has(p))) {
                    boolean full = count >= 0 && days.size() >= count;
                    if (!full && !d.isBefore(begin) && (until == null || !d.isAfter(until))) {
                        days.add(number(d));
                    }
                }
            }
            return days;
        }

        int goesBy(LocalDate d) {
            for (LocalDate p = periodStart(begin); !p.isAfter(periodStart(d)); p = plus(p, step)) {
                if (p.equals(periodStart(d))) {
                    return 1;
                }
            }
            return 0;
        }
    }

    interface Expr {
        TreeSet<Integer> days(Model m);

        String text();
    }

    record Named(String name, int what) implements Expr {
        public TreeSet<Integer> days(Model m) {
            return new TreeSet<>(m.days(what));
        }

        public String text() {
            return name;
        }
    }

    record Told(List<LocalDate> dates) implements Expr {
        public TreeSet<Integer> days(Model m) {
            TreeSet<Integer> days = new TreeSet<>();
            dates.forEach(d -> days.add(number(d)));
            return days;
        }

        public String text() {
            StringBuilder s = new StringBuilder("day ");
            for (int i = 0; i < dates.size(); i++) {
                s.append(i == 0 ? "" : " , ").append(dateText(dates.get(i)));
            }
            return s.toString();
        }
    }

    /** or, and, less; the brackets are written where the text needs them, or more. */
    record Join(String op, Expr one, Expr other) implements Expr {
        public TreeSet<Integer> days(Model m) {
            TreeSet<Integer> days = one.days(m);
            if (op.equals("or")) {
                days.addAll(other.days(m));
            } else if (op.equals("and")) {
                days.retainAll(other.days(m));
            } else {
                days.removeAll(other.days(m));
            }
            return days;
        }

        public String text() {
            return one.text() + " " + op + " " + other.text();
        }
    }

    record Bracket(Expr in) implements Expr {
        public TreeSet<Integer> days(Model m) {
            return in.days(m);
        }

        public String text() {
            return "( " + in.text() + " )";
        }
    }

    record Shift(Expr of, int days) implements Expr {
        public TreeSet<Integer> days(Model m) {
            TreeSet<Integer> moved = new TreeSet<>();
            for (int d : of.days(m)) {
                if (d + days >= 0 && d + days < DAYS) {
                    moved.add(d + days);
                }
            }
            return moved;
        }

        public String text() {
            return of.text() + (days > 0 ? " later " + days : " sooner " + -days);
        }
    }

    record Off(Expr of, Named name) implements Expr {
        public TreeSet<Integer> days(Model m) {
            TreeSet<Integer> taken = m.days(name.what());
            TreeSet<Integer> moved = new TreeSet<>();
            for (int d : of.days(m)) {
                int e = d;
                while (e < DAYS && taken.contains(e)) {
                    e++;
                }
                if (e < DAYS) {
                    moved.add(e);
                }
            }
            return moved;
        }

        public String text() {
            return of.text() + " off " + name.name();
        }
    }

    /** All that an undone act brings back. */
    static final class State {
        List<Rule> rules = new ArrayList<>();
        List<TreeSet<Integer>> added = new ArrayList<>();
        List<TreeSet<Integer>> left = new ArrayList<>();

        State copy() {
            State s = new State();
            rules.forEach(r -> s.rules.add(r.copy()));
            added.forEach(a -> s.added.add(new TreeSet<>(a)));
            left.forEach(a -> s.left.add(new TreeSet<>(a)));
            return s;
        }
    }

    State now = new State();
    final List<String> setNames = new ArrayList<>();
    final List<Expr> sets = new ArrayList<>();
    final Deque<State> before = new ArrayDeque<>();
    long x = 1;
    int seenRule = -1;
    List<int[]> seen = new ArrayList<>();
    final int[] refused = new int[6];
    private final List<TreeSet<Integer>> known = new ArrayList<>();

    static int number(LocalDate d) {
        return (int) ChronoUnit.DAYS.between(ZERO, d);
    }

    static LocalDate dated(int day) {
        return ZERO.plusDays(day);
    }

    static String dateText(LocalDate d) {
        return d.getYear() + " - " + d.getMonthValue() + " - " + d.getDayOfMonth();
    }

    void forget() {
        known.clear();
        for (int i = 0; i < 12; i++) {
            known.add(null);
        }
    }

    boolean isWhat(int what) {
        return what >= 0 && what < now.rules.size() || what >= 6 && what < 6 + sets.size();
    }

    static boolean isDay(int day) {
        return day >= 0 && day < DAYS;
    }

    TreeSet<Integer> days(int what) {
        if (known.isEmpty()) {
            forget();
        }
        if (known.get(what) == null) {
            TreeSet<Integer> days;
            if (what < 6) {
                days = now.rules.get(what).days(now.rules.get(what).step);
            } else {
                days = sets.get(what - 6).days(this);
                days.addAll(now.added.get(what - 6));
                days.removeAll(now.left.get(what - 6));
            }
            known.set(what, days);
        }
        return known.get(what);
    }

    void remember(State was) {
        before.push(was);
        if (before.size() > 20) {
            before.removeLast();
        }
    }

    boolean mark(int set, int day, boolean add) {
        if (set < 0 || set >= sets.size() || !isDay(day) || days(6 + set).contains(day) == add) {
            return false;
        }
        TreeSet<Integer> mine = (add ? now.added : now.left).get(set);
        TreeSet<Integer> other = (add ? now.left : now.added).get(set);
        if (!other.contains(day) && mine.size() >= 20) {
            return false;
        }
        if (!other.remove(day)) {
            mine.add(day);
        }
        forget();
        return true;
    }

    boolean act(int set, int day, boolean add) {
        State was = now.copy();
        boolean done = mark(set, day, add);
        if (done) {
            remember(was);
        } else {
            refused[2]++;
        }
        return done;
    }

    int draw(int m) {
        x = (1103515245L * x + 12345L) % (1L << 31);
        return (int) (x / 64 % m);
    }

    int chance(int n) {
        if (n < 1 || n > 40 || sets.isEmpty()) {
            refused[2]++;
            return -1;
        }
        State was = now.copy();
        int done = 0;
        for (int i = 0; i < n; i++) {
            int set = draw(sets.size());
            int day = draw(DAYS);
            done += mark(set, day, !days(6 + set).contains(day)) ? 1 : 0;
        }
        remember(was);
        return done;
    }

    boolean every(int rule, int n) {
        if (rule < 0 || rule >= now.rules.size() || n < 1 || n > 99 || now.rules.get(rule).step == n) {
            refused[3]++;
            return false;
        }
        remember(now.copy());
        now.rules.get(rule).step = n;
        forget();
        return true;
    }

    boolean from(int rule, int day) {
        if (rule < 0 || rule >= now.rules.size() || !isDay(day) || number(now.rules.get(rule).begin) == day) {
            refused[3]++;
            return false;
        }
        remember(now.copy());
        now.rules.get(rule).begin = dated(day);
        forget();
        return true;
    }

    boolean undo() {
        if (before.isEmpty()) {
            refused[4]++;
            return false;
        }
        now = before.pop();
        forget();
        return true;
    }

    List<Integer> fits() {
        List<Integer> fits = new ArrayList<>();
        for (int n = 1; n <= 60; n++) {
            TreeSet<Integer> days = now.rules.get(seenRule).days(n);
            boolean so = true;
            for (int[] row : seen) {
                so &= days.contains(row[0]) == (row[1] == 1);
            }
            if (so) {
                fits.add(n);
            }
        }
        return fits;
    }

    /** The day, and how many are left at the most. */
    int[] telling() {
        List<Integer> fits = fits();
        int year = dated(seen.get(0)[0]).getYear();
        int[] of = new int[366];
        for (int n : fits) {
            for (int d : now.rules.get(seenRule).days(n)) {
                if (dated(d).getYear() == year) {
                    of[dated(d).getDayOfYear() - 1]++;
                }
            }
        }
        int[] best = {-1, -1};
        for (LocalDate d = LocalDate.of(year, 1, 1); d.getYear() == year && !fits.isEmpty(); d = d.plusDays(1)) {
            int c = of[d.getDayOfYear() - 1];
            int most = Math.max(c, fits.size() - c);
            if (best[0] < 0 || most < best[1]) {
                best = new int[] {number(d), most};
            }
        }
        return best;
    }
}
