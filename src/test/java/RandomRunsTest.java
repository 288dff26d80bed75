import java.time.LocalDate;
import java.util.ArrayList;
import java.util.List;
import java.util.Random;
import java.util.TreeSet;

/** Promises 4 to 32 together: random books, runs of random calls, each answer compared with the plain model. */
public final class RandomRunsTest {
    private static Random random;
    private static FeastRules x;
    private static Model m;
    private static String run;

    public static void main(String[] args) {
        int runs = args.length > 0 ? Integer.parseInt(args[0]) : 375;
        for (int seed = 0; seed < runs && Check.wrong() == 0; seed++) {
            random = new Random(seed);
            x = new FeastRules();
            m = new Model();
            for (int book = 1; book <= 2 && Check.wrong() == 0; book++) {
                Model fresh = new Model();
                String text = new Maker(random).fill(fresh);
                if (text.length() > 1600) {
                    continue;
                }
                run = "run " + seed + ", book " + book + ": ";
                anotherBook(fresh, text);
                for (int i = 0; i < 80; i++) {
                    call();
                }
                if (Check.wrong() > 0) {
                    System.out.println("the book: " + text);
                }
            }
        }
        Check.close("RandomRunsTest");
    }

    private static void anotherBook(Model fresh, String text) {
        due("a book with a fault", Check.book(x, text + "x"), -1);
        fresh.x = m.x;
        System.arraycopy(m.refused, 0, fresh.refused, 0, 6);
        fresh.refused[1]++;
        m = fresh;
        due("book()", Check.book(x, text), m.now.rules.size() + m.sets.size());
    }

    private static void due(String call, long got, long want) {
        Check.due(run + call, got, want);
    }

    private static int any(int least, int most) {
        return least + random.nextInt(most - least + 1);
    }

    private static int what() {
        List<Integer> all = new ArrayList<>();
        for (int i = 0; i < 12; i++) {
            if (m.isWhat(i)) {
                all.add(i);
            }
        }
        return random.nextInt(15) == 0 ? any(-1, 12) : all.get(random.nextInt(all.size()));
    }

    private static int rule() {
        return random.nextInt(15) == 0 ? any(-1, 6) : random.nextInt(m.now.rules.size());
    }

    private static int day() {
        switch (random.nextInt(12)) {
            case 0: return any(-2, 2);
            case 1: return any(14607, 14611);
            case 2: case 3: case 4: return random.nextInt(900);
            default: return random.nextInt(14610);
        }
    }

    private static void call() {
        int kind = random.nextInt(26);
        if (kind < 13) {
            ask(kind);
        } else if (kind < 16) {
            sight();
        } else if (kind < 24) {
            act();
        } else {
            state();
        }
    }

    private static void ask(int kind) {
        int what = what();
        int day = day();
        int of = any(-1, 2);
        boolean is = m.isWhat(what);
        TreeSet<Integer> days = is ? m.days(what) : new TreeSet<>();
        switch (kind) {
            case 0:
                due("on(" + what + ", " + day + ")", x.on(what, day), is && Model.isDay(day) ? days.contains(day) ? 1 : 0 : -1);
                break;
            case 1: {
                Integer next = is && day >= -1 && day <= 14609 ? days.higher(day) : null;
                due("next(" + what + ", " + day + ")", x.next(what, day), next == null ? -1 : next);
                break;
            }
            case 2: {
                Integer ahead = is && day >= 0 && day <= 14610 ? days.lower(day) : null;
                due("ahead(" + what + ", " + day + ")", x.ahead(what, day), ahead == null ? -1 : ahead);
                break;
            }
            case 3: {
                int k = any(-days.size() - 1, days.size());
                List<Integer> row = new ArrayList<>(days);
                int i = k < 0 ? row.size() + k : k;
                due("nth(" + what + ", " + k + ")", x.nth(what, k), is && i >= 0 && i < row.size() ? row.get(i) : -1);
                break;
            }
            case 4: {
                int to = day();
                boolean can = is && Model.isDay(day) && Model.isDay(to) && day <= to;
                due("many(" + what + ", " + day + ", " + to + ")", x.many(what, day, to), can ? days.subSet(day, true, to, true).size() : -1);
                break;
            }
            case 5:
                due("gap(" + what + ", " + of + ")", x.gap(what, of), gap(days, of));
                break;
            case 6: {
                int n = random.nextInt(3) == 0 ? any(0, 1000) : any(1, 40);
                due("free(" + what + ", " + day + ", " + n + ")", x.free(what, day, n), is ? free(days, day, n) : -1);
                break;
            }
            case 7: {
                int other = what();
                due("meet(" + what + ", " + other + ", " + day + ", " + of + ")", x.meet(what, other, day, of), meet(what, other, day, of));
                break;
            }
            case 8: {
                int fare = any(-1, 19);
                due("fares(" + what + ", " + fare + ")", x.fares(what, fare), is ? fares(days, fare) : -1);
                break;
            }
            case 9: case 10:
                period(rule(), day, any(-1, 3));
                break;
            case 11:
                due("sum(" + what + ")", x.sum(what), is ? sum(days) : -1);
                break;
            default:
                letter(what, any(-1, 6));
        }
    }

    private static int gap(TreeSet<Integer> days, int of) {
        int longest = -1;
        int begins = -1;
        Integer one = null;
        for (int d : days) {
            if (one != null && d - one > longest) {
                longest = d - one;
                begins = one;
            }
            one = d;
        }
        return of == 0 ? longest : of == 1 ? begins : -1;
    }

    private static int free(TreeSet<Integer> days, int day, int n) {
        if (!Model.isDay(day) || n < 1 || n > 999) {
            return -1;
        }
        for (int s = day; s + n <= 14610; s++) {
            if (days.subSet(s, s + n).isEmpty()) {
                return s;
            }
        }
        return -1;
    }

    private static int meet(int one, int other, int day, int of) {
        if (!m.isWhat(one) || !m.isWhat(other) || !Model.isDay(day) || of < 0 || of > 1) {
            return -1;
        }
        for (int d = day; d < 14610; d++) {
            boolean a = m.days(one).contains(d);
            boolean b = m.days(other).contains(d);
            if (of == 0 ? a && b : a != b) {
                return d;
            }
        }
        return -1;
    }

    private static int fares(TreeSet<Integer> days, int of) {
        if (of < 0 || of > 18) {
            return -1;
        }
        int many = 0;
        for (int d : days) {
            LocalDate date = Model.dated(d);
            many += (of < 7 ? date.getDayOfWeek().getValue() - 1 == of : date.getMonthValue() + 6 == of) ? 1 : 0;
        }
        return many;
    }

    private static int sum(TreeSet<Integer> days) {
        long sum = 0;
        int place = 0;
        for (int d : days) {
            place++;
            sum += (long) place * d;
        }
        return (int) (sum % 1000003);
    }

    private static void period(int rule, int day, int what) {
        int want = -1;
        if (rule >= 0 && rule < m.now.rules.size() && Model.isDay(day) && what >= 0 && what <= 2) {
            Model.Rule r = m.now.rules.get(rule);
            TreeSet<LocalDate> has = r.has(r.periodStart(Model.dated(day)));
            want = what == 0 ? has.size() : what == 1 ? r.places(has).size() : r.goesBy(Model.dated(day));
        }
        due("period(" + rule + ", " + day + ", " + what + ")", x.period(rule, day, what), want);
    }

    private static void letter(int what, int k) {
        int want = -1;
        if (m.isWhat(what) && k >= 0 && k <= 5) {
            String name = what < 6 ? m.now.rules.get(what).name : m.setNames.get(what - 6);
            want = k < name.length() ? name.charAt(k) - 'a' + 1 : 0;
        }
        due("letter(" + what + ", " + k + ")", x.letter(what, k), want);
    }

    private static void sight() {
        if (m.seen.isEmpty() || random.nextInt(3) == 0) {
            see();
            return;
        }
        if (random.nextInt(3) > 0) {
            List<Integer> fits = m.fits();
            int k = any(-2, fits.size());
            due("fits(" + k + ")", x.fits(k), k == -1 ? fits.size() : k >= 0 && k < fits.size() ? fits.get(k) : -1);
        } else {
            int what = any(-1, 2);
            due("tells(" + what + ")", x.tells(what), what == 0 || what == 1 ? m.telling()[what] : -1);
        }
    }

    private static void see() {
        int rule = rule();
        int rows = random.nextInt(10) == 0 ? any(0, 13) : any(1, 4);
        int[] told = new int[rows * 2];
        List<int[]> seen = new ArrayList<>();
        boolean right = rule >= 0 && rule < m.now.rules.size() && rows >= 1 && rows <= 12;
        TreeSet<Integer> days = right ? m.now.rules.get(rule).days(1 + random.nextInt(9)) : new TreeSet<>();
        List<Integer> row = new ArrayList<>(days);
        for (int i = 0; i < rows; i++) {
            int day = row.isEmpty() || random.nextBoolean() ? random.nextInt(14610) : row.get(random.nextInt(Math.min(row.size(), 30)));
            day = random.nextInt(60) == 0 ? 14610 : day;
            int is = random.nextInt(60) == 0 ? 2 : days.contains(day) ? 1 : 0;
            told[i * 2] = day;
            told[i * 2 + 1] = is;
            right &= day < 14610 && is < 2;
            seen.add(new int[] {day, is});
        }
        if (right) {
            m.seen = seen;
            m.seenRule = rule;
        } else {
            m.refused[1]++;
        }
        due("see(" + rule + ")", Check.see(x, rule, told), right ? rows : -1);
    }

    private static void act() {
        int set = random.nextInt(15) == 0 || m.sets.isEmpty() ? any(-1, 6) : random.nextInt(m.sets.size());
        int day = random.nextInt(3) == 0 ? any(0, 12) : day();
        switch (random.nextInt(8)) {
            case 0: case 1:
                due("add(" + set + ", " + day + ")", x.add(set, day) ? 1 : 0, m.act(set, day, true) ? 1 : 0);
                break;
            case 2: case 3: {
                boolean can = set >= 0 && set < m.sets.size();
                Integer in = can ? m.days(6 + set).ceiling(Math.max(0, day)) : null;
                int of = in == null || random.nextInt(4) == 0 ? day : in;
                due("leave(" + set + ", " + of + ")", x.leave(set, of) ? 1 : 0, m.act(set, of, false) ? 1 : 0);
                break;
            }
            case 4: {
                int n = random.nextInt(10) == 0 ? any(-1, 101) : any(0, 7);
                int rule = rule();
                due("every(" + rule + ", " + n + ")", x.every(rule, n) ? 1 : 0, m.every(rule, n) ? 1 : 0);
                break;
            }
            case 5: {
                int rule = rule();
                due("from(" + rule + ", " + day + ")", x.from(rule, day) ? 1 : 0, m.from(rule, day) ? 1 : 0);
                break;
            }
            case 6: {
                int n = random.nextInt(10) == 0 ? any(-1, 42) : any(1, 12);
                due("chance(" + n + ")", x.chance(n), m.chance(n));
                break;
            }
            default:
                due("undo()", x.undo() ? 1 : 0, m.undo() ? 1 : 0);
        }
    }

    private static void state() {
        int what = any(-1, 6);
        int added = m.now.added.stream().mapToInt(TreeSet::size).sum();
        int left = m.now.left.stream().mapToInt(TreeSet::size).sum();
        int[] has = {m.now.rules.size(), m.sets.size(), added, left, m.seen.size(), m.before.size()};
        due("has(" + what + ")", x.has(what), what >= 0 && what < 6 ? has[what] : -1);
        due("status(" + what + ")", x.status(what), what >= 0 && what < 6 ? m.refused[what] : -1);
        if (random.nextInt(8) == 0) {
            int seed = random.nextInt();
            if (seed < 0) {
                m.refused[5]++;
            } else {
                m.x = seed;
            }
            due("seed(" + seed + ")", x.seed(seed) ? 1 : 0, seed < 0 ? 0 : 1);
        }
        int rule = rule();
        int part = any(-1, 9);
        due("rule(" + rule + ", " + part + ")", x.rule(rule, part), part(rule, part));
    }

    private static int part(int rule, int what) {
        if (rule < 0 || rule >= m.now.rules.size()) {
            return -1;
        }
        Model.Rule r = m.now.rules.get(rule);
        int months = r.in.stream().mapToInt(i -> 1 << i).sum();
        int until = r.until == null ? -1 : Model.number(r.until);
        int[] all = {r.step, r.unit, Model.number(r.begin), months, r.on.size(), r.by.size(), r.at.size(), until, r.count};
        return what >= 0 && what < all.length ? all[what] : -1;
    }
}
