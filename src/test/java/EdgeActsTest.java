/** Boundary cases of promises 25 to 32, and of acts and draws (terms, II). */
public final class EdgeActsTest {
    private static final int MIN = Integer.MIN_VALUE;
    private static final int MAX = Integer.MAX_VALUE;
    private static final int LAST = 14609;
    private static final int[] NO_DAYS = {MIN, -1, 14610, MAX};
    private static final int[] NO_SETS = {MIN, -6, -1, 2, 5, 6, 7, MAX};
    private static final int[] NO_RULES = {MIN, -1, 2, 5, 6, MAX};
    private static final long MODULUS = 1L << 31;

    public static void main(String[] args) throws ReflectiveOperationException {
        Edges.run(EdgeActsTest.class);
    }

    private static FeastRules book() {
        return Check.made("rule a every 2 days from 2000-1-1 until 2000-3-31;set s is a;set t is day 2000-1-1,2039-12-31;");
    }

    /** Twenty days added to the first set (1, 3 .. 39), twenty left out of it (0, 2 .. 38). */
    private static FeastRules full() {
        FeastRules x = book();
        for (int i = 0; i < 20; i++) {
            x.add(0, 2 * i + 1);
            x.leave(0, 2 * i);
        }
        return x;
    }

    private static void has(FeastRules x, int added, int leftOut, int acts) {
        Check.due("ADDED", x.has(2), added);
        Check.due("LEFT OUT", x.has(3), leftOut);
        Check.due("ACTS", x.has(5), acts);
    }

    private static void addADay() {
        FeastRules x = book();
        Check.due("add(0, 1)", x.add(0, 1), true);
        Check.due("add(0, 14609)", x.add(0, LAST), true);
        Check.due("on(6, 14609)", x.on(6, LAST), 1);
        Check.due("add(1, 1)", x.add(1, 1), true);
        has(x, 3, 0, 3);
        Check.due("status(2)", x.status(2), 0);
        FeastRules y = Check.made("set a is day 2000-1-2;");
        Check.due("add(0, 0)", y.add(0, 0), true);
        Check.days(y, 6, 0, 1);
    }

    private static void addOneThatIsInIt() {
        Refusal.no("add(0, 0)", Refusal.MARK, y -> y.add(0, 0));
        Refusal.no("add(0, 1), added by hand", Refusal.MARK, y -> y.add(0, 1));
        Refusal.no("add(1, 14609)", Refusal.MARK, EdgeActsTest::book, y -> y.add(1, LAST));
    }

    private static void addNoneSuch() {
        for (int set : NO_SETS) {
            Refusal.no("add(" + set + ", 5)", Refusal.MARK, y -> y.add(set, 5));
        }
        for (int day : NO_DAYS) {
            Refusal.no("add(0, " + day + ")", Refusal.MARK, y -> y.add(0, day));
        }
        FeastRules six = Check.made(Texts.sets(6));
        Check.due("add(5, 1)", six.add(5, 1), true);
        Check.due("add(6, 1)", six.add(6, 1), false);
        FeastRules one = Check.made(Texts.sets(1));
        Check.due("add(0, 1)", one.add(0, 1), true);
        Check.due("add(1, 1)", one.add(1, 1), false);
    }

    private static void twentyAdded() {
        FeastRules x = book();
        for (int i = 0; i < 20; i++) {
            Check.due("add " + (i + 1), x.add(0, 1000 + i), true);
        }
        has(x, 20, 0, 20);
        Check.due("add 21", x.add(0, 1020), false);
        Check.due("status(2)", x.status(2), 1);
        has(x, 20, 0, 20);
        Check.due("to the other set", x.add(1, 1020), true);
        has(x, 21, 0, 20);
        Refusal.no("add(0, 1020) to a full one", Refusal.MARK, EdgeActsTest::full, y -> y.add(0, 1020));
        FeastRules y = full();
        Check.due("one that was LEFT OUT of it", y.add(0, 38), true);
        has(y, 20, 19, 20);
        Check.due("on(6, 38)", y.on(6, 38), 1);
        Check.due("add 21", y.add(0, 1020), false);
        Check.due("one ADDED less", y.leave(0, 39), true);
        Check.due("room for one", y.add(0, 1020), true);
        has(y, 20, 19, 20);
        // One from among the twenty is ADDED no more; the others are.
        FeastRules z = Check.made("set e is day 2000-1-1 less day 2000-1-1;");
        for (int i = 0; i < 20; i++) {
            z.add(0, 100 + i);
        }
        Check.due("the eighth", z.leave(0, 107), true);
        Check.due("the first", z.leave(0, 100), true);
        Check.days(z, 6, 101, 102, 103, 104, 105, 106, 108, 109, 110, 111, 112, 113, 114, 115, 116, 117, 118, 119);
        has(z, 18, 0, 20);
    }

    private static void leaveADay() {
        FeastRules x = book();
        Check.due("leave(0, 0)", x.leave(0, 0), true);
        Check.due("leave(1, 14609)", x.leave(1, LAST), true);
        Check.due("on(7, 14609)", x.on(7, LAST), 0);
        has(x, 0, 2, 2);
        Check.days(x, 7, 0);
        Check.due("leave(1, 0)", x.leave(1, 0), true);
        Check.days(x, 7);
        Check.due("status(2)", x.status(2), 0);
    }

    private static void leaveOneThatIsNotInIt() {
        Refusal.no("leave(0, 3)", Refusal.MARK, y -> y.leave(0, 3));
        Refusal.no("leave(1, 3), left out by hand", Refusal.MARK, y -> y.leave(1, 3));
        Refusal.no("leave(0, 14609)", Refusal.MARK, y -> y.leave(0, LAST));
    }

    private static void leaveNoneSuch() {
        for (int set : NO_SETS) {
            Refusal.no("leave(" + set + ", 4)", Refusal.MARK, y -> y.leave(set, 4));
        }
        for (int day : NO_DAYS) {
            Refusal.no("leave(0, " + day + ")", Refusal.MARK, y -> y.leave(0, day));
        }
        FeastRules six = Check.made(Texts.sets(6));
        Check.due("leave(5, 0)", six.leave(5, 0), true);
        Check.due("leave(6, 0)", six.leave(6, 0), false);
    }

    private static void twentyLeftOut() {
        FeastRules x = book();
        for (int i = 0; i < 20; i++) {
            Check.due("leave " + (i + 1), x.leave(0, 2 * i), true);
        }
        has(x, 0, 20, 20);
        Check.due("leave 21", x.leave(0, 40), false);
        Check.due("status(2)", x.status(2), 1);
        Check.due("of the other set", x.leave(1, 0), true);
        has(x, 0, 21, 20);
        Refusal.no("leave(0, 40) of a full one", Refusal.MARK, EdgeActsTest::full, y -> y.leave(0, 40));
        FeastRules y = full();
        Check.due("one that was ADDED to it", y.leave(0, 39), true);
        has(y, 19, 20, 20);
        Check.due("on(6, 39)", y.on(6, 39), 0);
        Check.due("leave 21", y.leave(0, 40), false);
        Check.due("one LEFT OUT less", y.add(0, 38), true);
        Check.due("room for one", y.leave(0, 40), true);
        has(y, 19, 20, 20);
    }

    private static void addedThatWasLeftOut() {
        FeastRules x = book();
        Check.due("leave", x.leave(0, 4), true);
        has(x, 0, 1, 1);
        Check.due("add", x.add(0, 4), true);
        has(x, 0, 0, 2);
        Check.due("on(6, 4)", x.on(6, 4), 1);
        Check.due("undo", x.undo(), true);
        has(x, 0, 1, 1);
        Check.due("on(6, 4)", x.on(6, 4), 0);
    }

    private static void leftOutThatWasAdded() {
        FeastRules x = book();
        Check.due("add", x.add(0, 5), true);
        has(x, 1, 0, 1);
        Check.due("leave", x.leave(0, 5), true);
        has(x, 0, 0, 2);
        Check.due("on(6, 5)", x.on(6, 5), 0);
        Check.due("undo", x.undo(), true);
        has(x, 1, 0, 1);
        Check.due("on(6, 5)", x.on(6, 5), 1);
    }

    private static void anotherN() {
        for (int n : new int[] {1, 98, 99}) {
            FeastRules x = book();
            Check.due("every(0, " + n + ")", x.every(0, n), true);
            Check.due("rule(0, 0)", x.rule(0, 0), n);
            Check.due("days", x.many(6, 0, LAST), n == 1 ? 91 : 1);
            has(x, 0, 0, 1);
            Check.due("status(3)", x.status(3), 0);
        }
        for (int n : new int[] {MIN, -1, 0, 100, MAX}) {
            Refusal.no("every(0, " + n + ")", Refusal.RULE, y -> y.every(0, n));
        }
        Refusal.no("every(0, 2): it is that", Refusal.RULE, y -> y.every(0, 2));
        Refusal.no("every(1, 4): it is that by now", Refusal.RULE, y -> y.every(1, 4));
        for (int rule : NO_RULES) {
            Refusal.no("every(" + rule + ", 5)", Refusal.RULE, y -> y.every(rule, 5));
        }
        FeastRules six = Check.made(Texts.rules(6));
        Check.due("every(5, 2)", six.every(5, 2), true);
        Check.due("every(6, 2)", six.every(6, 2), false);
        // Of that rule alone, and of the sets that have it.
        FeastRules two = Check.made("rule a every 3 days from 2000-1-1 count 2;rule b every 3 days from 2000-1-1 count 2;set s is b;");
        Check.days(two, 6, 0, 3);
        Check.due("every(1, 4)", two.every(1, 4), true);
        Check.days(two, 6, 0, 4);
        Check.days(two, 0, 0, 3);
        Check.due("undo", two.undo(), true);
        Check.days(two, 6, 0, 3);
        Check.due("rule(1, 0)", two.rule(1, 0), 3);
    }

    private static void anotherBeginning() {
        FeastRules x = Check.made("rule a every 2 days from 2000-1-5 until 2000-1-9 count 9;");
        Check.due("from(0, 0)", x.from(0, 0), true);
        Check.days(x, 0, 0, 2, 4, 6, 8);
        Check.due("from(0, 8)", x.from(0, 8), true);
        Check.days(x, 0, 8);
        Check.due("from(0, 9), behind until", x.from(0, 9), true);
        Check.days(x, 0);
        Check.due("from(0, 14609)", x.from(0, LAST), true);
        int[] want = {2, 0, LAST, 0, 0, 0, 0, 8, 9};
        for (int what = 0; what < 9; what++) {
            Check.due("rule(0, " + what + ")", x.rule(0, what), want[what]);
        }
        has(x, 0, 0, 4);
        for (int day : NO_DAYS) {
            Refusal.no("from(0, " + day + ")", Refusal.RULE, y -> y.from(0, day));
        }
        Refusal.no("from(0, 0): it is that", Refusal.RULE, y -> y.from(0, 0));
        Refusal.no("from(1, 4): it is that", Refusal.RULE, y -> y.from(1, 4));
        for (int rule : NO_RULES) {
            Refusal.no("from(" + rule + ", 5)", Refusal.RULE, y -> y.from(rule, 5));
        }
        FeastRules six = Check.made(Texts.rules(6));
        Check.due("from(5, 1)", six.from(5, 1), true);
        Check.due("from(6, 1)", six.from(6, 1), false);
        FeastRules two = Check.made("rule a every 3 days from 2000-1-1 count 2;rule b every 3 days from 2000-1-1 count 2;set s is b;");
        Check.days(two, 6, 0, 3);
        Check.due("from(1, 1)", two.from(1, 1), true);
        Check.days(two, 6, 1, 4);
        Check.days(two, 0, 0, 3);
        Check.due("undo", two.undo(), true);
        Check.days(two, 6, 0, 3);
        Check.due("rule(1, 2)", two.rule(1, 2), 0);
    }

    private static void timesOfChance() {
        for (int n : new int[] {1, 39, 40}) {
            FeastRules x = Check.made(Texts.sets(6));
            Check.due("chance(" + n + ")", x.chance(n), n);
            has(x, n, 0, 1);
            Check.due("status(2)", x.status(2), 0);
        }
        for (int n : new int[] {MIN, -1, 0, 41, MAX}) {
            Refusal.none("chance(" + n + ")", Refusal.MARK, y -> y.chance(n));
        }
        Refusal.none("chance(1) without SETS", Refusal.MARK, () -> Check.made(Texts.rules(6)), y -> y.chance(1));
        Refusal.none("chance(1) without a book", Refusal.MARK, FeastRules::new, y -> y.chance(1));
        Check.due("chance(1) of one SET", Check.made(Texts.sets(1)).chance(1), 1);
    }

    private static void chanceIsOneAct() {
        FeastRules x = Check.made(Texts.sets(6));
        Check.due("chance(40)", x.chance(40), 40);
        has(x, 40, 0, 1);
        Check.due("undo", x.undo(), true);
        has(x, 0, 0, 0);
        for (int set = 6; set < 12; set++) {
            Check.days(x, set, 0);
        }
        Check.due("undo", x.undo(), false);
    }

    private static void chanceWhereItCantBe() {
        FeastRules x = Check.made("set a is day 2000-1-1;");
        Check.due("chance(20)", x.chance(20), 20);
        Check.due("a 21st can't be", x.chance(1), 0);
        has(x, 20, 0, 2);
        FeastRules y = Check.made("set a is day 2000-1-1;");
        Check.due("19 of 40 can't be", y.add(0, 5) ? y.chance(40) : -1, 19);
        has(y, 20, 0, 2);
        FeastRules z = Check.made("rule r every 1 days from 2000-1-1;set a is r;");
        Check.due("20 of 21 are LEFT OUT", z.chance(21), 20);
        has(z, 0, 20, 1);
        // The draws go on all the same: the seed behind them is the one of 40 times.
        FeastRules w = Check.made(Texts.sets(6));
        FeastRules v = Check.made(Texts.sets(6));
        v.chance(40);
        v.undo();
        for (int i = 0; i < 2; i++) {
            Check.book(i == 0 ? v : w, "set a is day 2000-1-1;");
        }
        for (int i = 0; i < 20; i++) {
            w.add(0, 20 + i);
        }
        Check.due("none of 40 can be", w.chance(40), 0);
        Check.book(w, Texts.sets(6));
        Check.book(v, Texts.sets(6));
        v.chance(40);
        w.chance(40);
        for (int set = 6; set < 12; set++) {
            Check.due("sum(" + set + ")", w.sum(set), v.sum(set));
        }
    }

    private static void chanceTurnsBackWhatWasMarked() {
        // The seed that draws one day anew: what it ADDED it leaves out, what it left out it adds.
        FeastRules x = Check.made("set a is day 2000-1-1;");
        x.seed(9);
        Check.due("chance(1)", x.chance(1), 1);
        has(x, 1, 0, 1);
        x.seed(9);
        Check.due("chance(1)", x.chance(1), 1);
        has(x, 0, 0, 2);
        Check.days(x, 6, 0);
        FeastRules all = Check.made("rule r every 1 days from 2000-1-1;set a is r;");
        all.seed(9);
        Check.due("chance(1)", all.chance(1), 1);
        has(all, 0, 1, 1);
        all.seed(9);
        Check.due("chance(1)", all.chance(1), 1);
        has(all, 0, 0, 2);
        // Of sets that are unlike, by what each one has: e is empty, w whole.
        FeastRules both = Check.made("rule r every 1 days from 2000-1-1;set e is r less r;set w is r;");
        Check.due("chance(30)", both.chance(30), 30);
        int added = both.many(6, 0, LAST);
        Check.due("both were drawn", added > 0 && added < 30, true);
        has(both, added, 30 - added, 1);
        Check.due("days of w", both.many(7, 0, LAST), 14610 - (30 - added));
        Check.due("undo", both.undo(), true);
        has(both, 0, 0, 0);
        Check.due("days of e", both.many(6, 0, LAST), 0);
        Check.due("days of w", both.many(7, 0, LAST), 14610);
    }

    /** The seed behind a draw, by numbers that hold it whole. */
    private static long drawn(long seed) {
        return (1103515245L * seed + 12345) % MODULUS;
    }

    private static void drawsWrapAround() {
        for (int seed : new int[] {0, 1, 2, 1 << 30, MAX - 1, MAX}) {
            FeastRules x = Check.made(Texts.sets(5));
            Check.due("seed(" + seed + ")", x.seed(seed), true);
            Check.due("chance(1)", x.chance(1), 1);
            long first = drawn(seed);
            long second = drawn(first);
            Check.due("the set and the day drawn by " + seed, x.on(6 + (int) (first / 64 % 5), (int) (second / 64 % 14610)), 1);
            Check.due("chance(1)", x.chance(1), 1);
            long third = drawn(second);
            long fourth = drawn(third);
            Check.due("the next by " + seed, x.on(6 + (int) (third / 64 % 5), (int) (fourth / 64 % 14610)), 1);
            has(x, 2, 0, 2);
        }
        // By hand: 1 becomes 1103527590, 17242618 by 64, 0 of two sets; then 377401575, 5896899 by 64, day 9069.
        FeastRules x = Check.made(Texts.sets(2));
        Check.due("chance(1)", x.chance(1), 1);
        Check.days(x, 6, 0, 9069);
        Check.days(x, 7, 0);
    }

    private static void lastTwentyCanBeUndone() {
        FeastRules x = book();
        for (int n = 3; n <= 22; n++) {
            Check.due("every(0, " + n + ")", x.every(0, n), true);
        }
        has(x, 0, 0, 20);
        Check.due("a 21st", x.add(1, 5), true);
        has(x, 1, 0, 20);
        for (int i = 19; i >= 0; i--) {
            Check.due("undo", x.undo(), true);
            Check.due("ACTS", x.has(5), i);
        }
        Check.due("the 21st back is not", x.rule(0, 0), 3);
        Check.due("undo", x.undo(), false);
        Check.due("status(4)", x.status(4), 1);
        Check.due("rule(0, 0) stays", x.rule(0, 0), 3);
        // Twenty of them, all undone.
        FeastRules y = book();
        for (int n = 3; n <= 22; n++) {
            y.every(0, n);
        }
        for (int i = 0; i < 20; i++) {
            Check.due("undo", y.undo(), true);
        }
        Check.due("as at first", y.rule(0, 0), 2);
        Check.due("undo", y.undo(), false);
    }

    private static void undoneOnTheFirstAndLastDay() {
        for (int set = 0; set < 6; set++) {
            FeastRules x = Check.made(Texts.sets(6));
            x.leave(set, 0);
            x.add(set, LAST);
            Check.days(x, 6 + set, LAST);
            Check.due("leave, of set " + set, x.leave(set, LAST), true);
            has(x, 0, 1, 3);
            Check.due("undo", x.undo(), true);
            has(x, 1, 1, 2);
            Check.days(x, 6 + set, LAST);
            Check.due("undo", x.undo(), true);
            has(x, 0, 1, 1);
            Check.days(x, 6 + set);
            Check.due("undo", x.undo(), true);
            has(x, 0, 0, 0);
            for (int other = 0; other < 6; other++) {
                Check.days(x, 6 + other, 0);
            }
        }
    }

    /** Sets that were asked for in between are as they were, whichever act is undone behind that. */
    private static void undoneBehindAnotherStep() {
        String text = "rule a every 2 days from 2000-1-1 count 30;set s is a;set t is a later 1;set u is s or t later 9;set v is u off s;";
        for (int set = 0; set < 4; set++) {
            FeastRules x = Check.made(text);
            FeastRules twin = Check.made(text);
            int day = x.nth(6 + set, 2);
            x.leave(set, day);
            x.add(set, day);
            x.every(0, 3);
            for (int what = 6; what < 10; what++) {
                x.sum(what);
            }
            Check.due("undo", x.undo(), true);
            Check.due("undo", x.undo(), true);
            twin.leave(set, day);
            for (int what = 6; what < 10; what++) {
                Check.due("sum(" + what + "), of set " + set, x.sum(what), twin.sum(what));
            }
            Check.due("undo", x.undo(), true);
            Check.due("undo", twin.undo(), true);
            for (int what = 9; what >= 6; what--) {
                Check.due("sum(" + what + "), undone", x.sum(what), twin.sum(what));
                Check.due("sum(" + what + "), as told", x.sum(what), Check.made(text).sum(what));
            }
        }
    }

    private static void undoneFromTheLatest() {
        FeastRules x = book();
        x.add(0, 1);
        x.leave(0, 2);
        x.every(0, 4);
        x.from(0, 6);
        x.chance(2);
        int[][] left = {{6, 4, 1, 1}, {0, 4, 1, 1}, {0, 2, 1, 1}, {0, 2, 1, 0}, {0, 2, 0, 0}};
        for (int i = 0; i < 5; i++) {
            Check.due("undo", x.undo(), true);
            Check.due("rule(0, 2) behind undo " + i, x.rule(0, 2), left[i][0]);
            Check.due("rule(0, 0) behind undo " + i, x.rule(0, 0), left[i][1]);
            has(x, left[i][2], left[i][3], 4 - i);
        }
        Check.due("sum", x.sum(6), book().sum(6));
        // What the latest did not change stays: day 0, left out of the first set; day 1, added to it.
        FeastRules y = book();
        y.leave(0, 0);
        y.add(0, 1);
        for (int i = 0; i < 4; i++) {
            Check.due("another act", i == 0 ? y.add(1, 7) : i == 1 ? y.leave(1, 0) : i == 2 ? y.chance(3) == 3 : y.every(0, 9), true);
            Check.due("undo", y.undo(), true);
            has(y, 1, 1, 2);
            Check.due("day 0 is LEFT OUT", y.on(6, 0), 0);
            Check.due("day 1 is ADDED", y.on(6, 1), 1);
        }
    }

    private static void nothingToUndo() {
        Refusal.no("undo() of a new object", Refusal.UNDO, FeastRules::new, FeastRules::undo);
        Refusal.no("undo() of a new book", Refusal.UNDO, EdgeActsTest::book, FeastRules::undo);
        Refusal.no("undo() once more", Refusal.UNDO, () -> {
            FeastRules y = book();
            y.add(0, 1);
            y.undo();
            return y;
        }, FeastRules::undo);
        // A refused act is none.
        Refusal.no("undo() behind refused acts", Refusal.UNDO, () -> {
            FeastRules y = book();
            y.add(0, 0);
            y.leave(0, 1);
            y.every(0, 2);
            y.from(0, 0);
            y.chance(0);
            return y;
        }, FeastRules::undo);
    }

    private static void seedAndSeenAreNotUndone() {
        FeastRules x = book();
        FeastRules y = book();
        Check.due("chance", x.chance(5), 5);
        Check.due("chance", y.chance(5), 5);
        Check.due("see", Check.see(x, 0, 4, 1), 1);
        Check.due("undo", x.undo(), true);
        Check.due("undo", y.undo(), true);
        Check.due("rows SEEN", x.has(4), 1);
        Check.due("fits", x.fits(-1), 3);
        Check.due("chance", x.chance(5), 5);
        // Not the five days drawn at first.
        FeastRules first = book();
        first.chance(5);
        Check.due("other days", x.sum(6) == first.sum(6) && x.sum(7) == first.sum(7), false);
        y.chance(5);
        Check.due("the seed goes on", x.sum(6), y.sum(6));
        x.undo();
        Check.due("seed", x.seed(3), true);
        Check.due("no act", x.undo(), false);
    }

    private static void seedsBelowZero() {
        for (int seed : new int[] {0, 1, MAX}) {
            FeastRules x = book();
            Check.due("seed(" + seed + ")", x.seed(seed), true);
            Check.due("status(5)", x.status(5), 0);
        }
        for (int seed : new int[] {-1, -2, MIN}) {
            Refusal.no("seed(" + seed + ")", Refusal.SEED, y -> y.seed(seed));
            Refusal.no("seed(" + seed + ") at first", Refusal.SEED, EdgeActsTest::book, y -> y.seed(seed));
        }
    }

    private static void seedIsOneAtFirst() {
        FeastRules x = book();
        FeastRules one = book();
        FeastRules zero = book();
        one.seed(1);
        zero.seed(0);
        x.chance(5);
        one.chance(5);
        zero.chance(5);
        Check.due("as by 1", x.sum(6) == one.sum(6) && x.sum(7) == one.sum(7), true);
        Check.due("as by 0", x.sum(6) == zero.sum(6) && x.sum(7) == zero.sum(7), false);
    }

    private static void statusOfOthers() {
        FeastRules x = new FeastRules();
        x.end(-1);
        for (int i = 0; i < 80; i++) {
            x.feed(0, 0, 0, 0, 0);
        }
        x.feed(0, 0, 0, 0, 0);
        x.book();
        x.see(0);
        x.see(0);
        x.add(0, 0);
        x.leave(0, 0);
        x.chance(1);
        x.chance(0);
        x.every(0, 1);
        x.from(0, 0);
        x.every(0, 2);
        x.from(0, 1);
        x.from(0, 2);
        for (int i = 0; i < 6; i++) {
            x.undo();
        }
        for (int i = 0; i < 7; i++) {
            x.seed(-1);
        }
        for (int what = 0; what < 6; what++) {
            Check.due("status(" + what + ")", x.status(what), what + 2);
        }
        for (int what : new int[] {MIN, -1, 6, MAX}) {
            Check.due("status(" + what + ")", x.status(what), -1);
        }
    }

    private static void statusOutlivesABook() {
        FeastRules x = book();
        x.end(-1);
        x.book();
        x.add(0, 0);
        x.every(0, 0);
        x.undo();
        x.seed(-1);
        Check.due("another book", Check.book(x, Texts.sets(1)), 1);
        for (int what = 0; what < 6; what++) {
            Check.due("status(" + what + ")", x.status(what), 1);
        }
    }

    private static void askingIsNotRefused() {
        FeastRules x = book();
        x.fault(9);
        x.has(9);
        x.letter(9, 9);
        x.rule(9, 9);
        x.day(0, 0, 0);
        x.date(-1, 9);
        x.on(-1, -1);
        x.next(-1, -9);
        x.ahead(-1, -9);
        x.nth(-1, 0);
        x.many(0, 5, 4);
        x.gap(-1, 9);
        x.free(0, 0, 0);
        x.meet(0, 0, 0, 9);
        x.fares(0, 99);
        x.period(0, 0, 9);
        x.sum(-1);
        x.fits(9);
        x.tells(9);
        x.status(9);
        for (int what = 0; what < 6; what++) {
            Check.due("status(" + what + ")", x.status(what), 0);
        }
    }
}
