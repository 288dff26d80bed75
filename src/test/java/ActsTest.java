/** Promises 25 to 32: acts, undone acts, the seed, what was refused. */
public final class ActsTest {
    private static final String BOOK = "rule a every 2 days from 2000-1-1 until 2000-3-31;set s is a;set t is s later 1;";

    public static void main(String[] args) {
        adding();
        leaving();
        limits();
        marksOutliveRules();
        steps();
        beginnings();
        eachSet();
        chances();
        chancesOfAll();
        fullChances();
        undoing();
        seeds();
        statuses();
        Check.close("ActsTest");
    }

    private static void adding() {
        FeastRules x = Check.made(BOOK);
        Check.due("add(0, 1)", x.add(0, 1), true);
        Check.due("on(6, 1)", x.on(6, 1), 1);
        Check.due("on(7, 2)", x.on(7, 2), 1);
        Check.due("on(0, 1)", x.on(0, 1), 0);
        Check.due("has(2)", x.has(2), 1);
        Check.due("has(5)", x.has(5), 1);
        Check.due("add again", x.add(0, 1), false);
        Check.due("add one that is in it", x.add(0, 2), false);
        Check.due("add(0, 14609)", x.add(0, 14609), true);
        for (int wrong : new int[] {Integer.MIN_VALUE, -6, -1, 2, 5, 6, Integer.MAX_VALUE}) {
            Check.due("add(" + wrong + ", 1)", x.add(wrong, 1), false);
        }
        for (int wrong : new int[] {Integer.MIN_VALUE, -1, 14610, Integer.MAX_VALUE}) {
            Check.due("add(0, " + wrong + ")", x.add(0, wrong), false);
        }
        Check.due("status(2)", x.status(2), 13);
        Check.due("leave what was added", x.leave(0, 1), true);
        Check.due("has(2)", x.has(2), 1);
        Check.due("has(3)", x.has(3), 0);
        Check.due("on(6, 1)", x.on(6, 1), 0);
        Check.due("has(5)", x.has(5), 3);
    }

    private static void leaving() {
        FeastRules x = Check.made(BOOK);
        Check.due("leave(0, 2)", x.leave(0, 2), true);
        Check.due("on(6, 2)", x.on(6, 2), 0);
        Check.due("on(7, 3)", x.on(7, 3), 0);
        Check.due("on(0, 2)", x.on(0, 2), 1);
        Check.due("has(3)", x.has(3), 1);
        Check.due("leave again", x.leave(0, 2), false);
        Check.due("leave one that is not in it", x.leave(0, 1), false);
        for (int wrong : new int[] {Integer.MIN_VALUE, -6, -1, 2, 5, 6, Integer.MAX_VALUE}) {
            Check.due("leave(" + wrong + ", 4)", x.leave(wrong, 4), false);
        }
        for (int wrong : new int[] {Integer.MIN_VALUE, -1, 14610, Integer.MAX_VALUE}) {
            Check.due("leave(0, " + wrong + ")", x.leave(0, wrong), false);
        }
        Check.due("status(2)", x.status(2), 13);
        Check.due("add what was left out", x.add(0, 2), true);
        Check.due("has(2)", x.has(2), 0);
        Check.due("has(3)", x.has(3), 0);
        Check.due("on(6, 2)", x.on(6, 2), 1);
    }

    private static void limits() {
        FeastRules x = Check.made(BOOK);
        for (int i = 0; i < 20; i++) {
            Check.due("add " + i, x.add(0, 1001 + i), true);
            Check.due("leave " + i, x.leave(0, i * 2), true);
        }
        Check.due("a 21st added", x.add(0, 2000), false);
        Check.due("a 21st left out", x.leave(0, 40), false);
        Check.due("status(2)", x.status(2), 2);
        Check.due("has(2)", x.has(2), 20);
        Check.due("has(3)", x.has(3), 20);
        Check.due("to the other set", x.add(1, 2000), true);
        Check.due("of the other set", x.leave(1, 41), true);
        Check.due("has(2)", x.has(2), 21);
        Check.due("has(3)", x.has(3), 21);
        Check.due("one that was left out", x.add(0, 0), true);
        Check.due("one that was added", x.leave(0, 1001), true);
        Check.due("room for one", x.add(0, 2000), true);
        Check.due("room for one", x.leave(0, 40), true);
        Check.due("and no more", x.add(0, 2001), false);
        Check.due("and no more", x.leave(0, 42), false);
        Check.due("has(5)", x.has(5), 20);
    }

    private static void marksOutliveRules() {
        FeastRules x = Check.made(BOOK);
        Check.due("add(0, 1)", x.add(0, 1), true);
        Check.due("leave(0, 4)", x.leave(0, 4), true);
        Check.due("every", x.every(0, 1), true);
        Check.due("on(6, 1)", x.on(6, 1), 1);
        Check.due("on(6, 4)", x.on(6, 4), 0);
        Check.due("leave(0, 1): it is added no more", x.leave(0, 1), true);
        Check.due("on(6, 1): the rule has it", x.on(6, 1), 1);
        Check.due("has(2)", x.has(2), 0);
        Check.due("has(3)", x.has(3), 1);
        Check.due("every", x.every(0, 3), true);
        Check.due("add(0, 4): it is left out no more", x.add(0, 4), true);
        Check.due("on(6, 4): the rule has it not", x.on(6, 4), 0);
        Check.due("has(3)", x.has(3), 0);
        Check.due("add(0, 4)", x.add(0, 4), true);
        Check.due("on(6, 4)", x.on(6, 4), 1);
        Check.due("has(2)", x.has(2), 1);
    }

    private static void steps() {
        FeastRules x = Check.made(BOOK);
        for (int wrong : new int[] {Integer.MIN_VALUE, -1, 0, 2, 100, Integer.MAX_VALUE}) {
            Check.due("every(0, " + wrong + ")", x.every(0, wrong), false);
        }
        for (int wrong : new int[] {Integer.MIN_VALUE, -1, 1, 6, Integer.MAX_VALUE}) {
            Check.due("every(" + wrong + ", 1)", x.every(wrong, 1), false);
        }
        Check.due("status(3)", x.status(3), 11);
        Check.due("has(5)", x.has(5), 0);
        Check.due("every(0, 99)", x.every(0, 99), true);
        Check.due("rule(0, 0)", x.rule(0, 0), 99);
        Check.days(x, 0, 0);
        Check.days(x, 7, 1);
        Check.due("every(0, 30)", x.every(0, 30), true);
        Check.days(x, 6, 0, 30, 60, 90);
        Check.due("rule(0, 7) stays", x.rule(0, 7), 90);
        Check.due("undo", x.undo(), true);
        Check.due("undo", x.undo(), true);
        Check.due("rule(0, 0)", x.rule(0, 0), 2);
        Check.due("many", x.many(6, 0, 14609), 46);
    }

    private static void beginnings() {
        FeastRules x = Check.made("rule a every 1 months from 2000-1-31 count 3;rule b every 1 years from 2000-2-29 count 2;"
            + "rule c every 1 weeks from 2000-1-3 count 2;set s is a;");
        for (int wrong : new int[] {Integer.MIN_VALUE, -1, 30, 14610, Integer.MAX_VALUE}) {
            Check.due("from(0, " + wrong + ")", x.from(0, wrong), false);
        }
        for (int wrong : new int[] {Integer.MIN_VALUE, -1, 3, 6, Integer.MAX_VALUE}) {
            Check.due("from(" + wrong + ", 1)", x.from(wrong, 1), false);
        }
        Check.due("status(3)", x.status(3), 10);
        Check.days(x, 6, 30, 90, 151);
        Check.due("from(0, 28)", x.from(0, 28), true);
        Check.due("rule(0, 2)", x.rule(0, 2), 28);
        Check.days(x, 0, 28, 59, 88);
        Check.days(x, 6, 28, 59, 88);
        Check.due("from(1, 60)", x.from(1, 60), true);
        Check.days(x, 1, 60, 425);
        Check.due("from(2, 6)", x.from(2, 6), true);
        Check.days(x, 2, 6, 13);
        Check.due("from(0, 14609)", x.from(0, 14609), true);
        Check.days(x, 0, 14609);
        for (int i = 0; i < 4; i++) {
            Check.due("undo", x.undo(), true);
        }
        Check.days(x, 0, 30, 90, 151);
        Check.days(x, 1, 59, 1520);
        Check.days(x, 2, 2, 9);
        Check.days(x, 6, 30, 90, 151);
    }

    private static void eachSet() {
        StringBuilder text = new StringBuilder();
        for (char c = 'a'; c < 'g'; c++) {
            text.append("set ").append(c).append(" is day 2000-1-1;");
        }
        FeastRules x = Check.made(text.toString());
        for (int set = 0; set < 6; set++) {
            Check.due("add to set " + set, x.add(set, 10 + set), true);
            Check.due("leave of set " + set, x.leave(set, 0), true);
        }
        for (int set = 0; set < 6; set++) {
            Check.days(x, 6 + set, 10 + set);
        }
        Check.due("has(2)", x.has(2), 6);
        Check.due("has(3)", x.has(3), 6);
    }

    private static long seed;

    private static int draw(int m) {
        seed = (1103515245L * seed + 12345L) % 2147483648L;
        return (int) (seed / 64 % m);
    }

    private static void chances() {
        FeastRules x = Check.made(BOOK);
        for (int wrong : new int[] {Integer.MIN_VALUE, -1, 0, 41, Integer.MAX_VALUE}) {
            Check.due("chance(" + wrong + ")", x.chance(wrong), -1);
        }
        Check.due("status(2)", x.status(2), 5);
        seed = 1;
        Check.due("chance(3)", x.chance(3), 3);
        for (int i = 0; i < 3; i++) {
            int set = draw(2);
            int day = draw(14610);
            Check.due("on(" + (6 + set) + ", " + day + ")", x.on(6 + set, day), 1);
        }
        Check.due("has(2)", x.has(2), 3);
        Check.due("has(5)", x.has(5), 1);
        Check.due("undo", x.undo(), true);
        Check.due("has(2)", x.has(2), 0);
        // The seed is not undone.
        Check.due("chance(1)", x.chance(1), 1);
        int set = draw(2);
        int day = draw(14610);
        Check.due("on", x.on(6 + set, day), 1);
        FeastRules none = Check.made("rule a every 1 days from 2000-1-1;");
        Check.due("chance without sets", none.chance(1), -1);
        Check.due("status(2)", none.status(2), 1);
        Check.due("chance without a book", new FeastRules().chance(1), -1);
        FeastRules all = Check.made("rule a every 1 days from 2000-1-1;set s is a;");
        seed = 1;
        Check.due("chance(2)", all.chance(2), 2);
        for (int i = 0; i < 2; i++) {
            draw(1);
            Check.due("left out", all.on(6, draw(14610)), 0);
        }
        Check.due("has(3)", all.has(3), 2);
    }

    private static void chancesOfAll() {
        FeastRules x = Check.made("rule a every 1 days from 2000-1-1;set n is a less a;set s is a;set m is n;");
        seed = 1;
        Check.due("chance(20)", x.chance(20), 20);
        int added = 0;
        for (int i = 0; i < 20; i++) {
            int set = draw(3);
            int day = draw(14610);
            Check.due("of set " + set, x.on(6 + set, day), set == 1 ? 0 : 1);
            added += set == 1 ? 0 : 1;
        }
        Check.due("has(2)", x.has(2), added);
        Check.due("has(3)", x.has(3), 20 - added);
    }

    private static void fullChances() {
        FeastRules x = Check.made("set s is day 2000-1-1;");
        Check.due("chance(40): 20 are added", x.chance(40), 20);
        Check.due("has(2)", x.has(2), 20);
        Check.due("none can be", x.chance(5), 0);
        Check.due("it is an act", x.has(5), 2);
        Check.due("undo", x.undo(), true);
        Check.due("has(2)", x.has(2), 20);
        Check.due("undo", x.undo(), true);
        Check.due("has(2)", x.has(2), 0);
        Check.days(x, 6, 0);
    }

    private static void undoing() {
        FeastRules x = Check.made(BOOK);
        Check.due("undo of nothing", x.undo(), false);
        Check.due("status(4)", x.status(4), 1);
        for (int i = 1; i <= 25; i++) {
            Check.due("every " + i, x.every(0, i % 2 == 0 ? 2 : i), true);
            Check.due("has(5)", x.has(5), Math.min(20, i));
        }
        int[] was = {2, 23, 2, 21, 2, 19, 2, 17, 2, 15, 2, 13, 2, 11, 2, 9, 2, 7, 2, 5};
        for (int i = 0; i < 20; i++) {
            Check.due("undo " + i, x.undo(), true);
            Check.due("rule(0, 0) behind undo " + i, x.rule(0, 0), was[i]);
            Check.due("has(5)", x.has(5), 19 - i);
        }
        Check.due("undo a 21st", x.undo(), false);
        Check.due("status(4)", x.status(4), 2);
        Check.due("rule(0, 0)", x.rule(0, 0), 5);
        mixed();
    }

    private static void mixed() {
        FeastRules x = Check.made(BOOK);
        int sum = x.sum(7);
        Check.due("leave", x.leave(0, 4), true);
        Check.due("add", x.add(1, 0), true);
        int marked = x.sum(7);
        Check.due("add what was left out", x.add(0, 4), true);
        Check.due("leave what was added", x.leave(1, 0), true);
        Check.due("back", x.sum(7), sum);
        Check.due("chance", x.chance(12), 12);
        Check.due("from", x.from(0, 7), true);
        Check.due("every", x.every(0, 3), true);
        for (int i = 0; i < 3; i++) {
            Check.due("undo", x.undo(), true);
        }
        Check.due("has(2)", x.has(2) + x.has(3), 0);
        Check.due("sum", x.sum(7), sum);
        Check.due("undo", x.undo(), true);
        Check.due("has(2)", x.has(2), 1);
        Check.due("undo", x.undo(), true);
        Check.due("has(3)", x.has(3), 1);
        Check.due("marked", x.sum(7), marked);
        Check.due("undo", x.undo(), true);
        Check.due("undo", x.undo(), true);
        Check.due("undo", x.undo(), false);
        Check.due("sum", x.sum(7), sum);
    }

    private static void seeds() {
        FeastRules x = Check.made(BOOK);
        Check.due("seed(-1)", x.seed(-1), false);
        Check.due("seed(MIN)", x.seed(Integer.MIN_VALUE), false);
        Check.due("status(5)", x.status(5), 2);
        for (int s : new int[] {0, 1, 77777, Integer.MAX_VALUE}) {
            Check.due("seed(" + s + ")", x.seed(s), true);
            seed = s;
            Check.due("chance", x.chance(1), 1);
            int set = draw(2);
            Check.due("the day drawn by " + s, x.on(6 + set, draw(14610)), 1);
        }
        FeastRules first = Check.made(BOOK);
        FeastRules one = Check.made(BOOK);
        one.seed(1);
        first.chance(5);
        one.chance(5);
        Check.due("1 at first", first.sum(6), one.sum(6));
    }

    private static void statuses() {
        FeastRules x = new FeastRules();
        x.end(1);
        x.book();
        x.book();
        x.see(0);
        x.add(0, 0);
        x.leave(0, 0);
        x.chance(1);
        x.chance(0);
        x.every(0, 1);
        x.from(0, 1);
        x.every(9, 1);
        x.from(9, 1);
        x.from(9, 2);
        for (int i = 0; i < 6; i++) {
            x.undo();
        }
        for (int i = 0; i < 7; i++) {
            x.seed(-1);
        }
        int[] want = {1, 3, 4, 5, 6, 7};
        for (int i = 0; i < 6; i++) {
            Check.due("status(" + i + ")", x.status(i), want[i]);
        }
        Check.due("status(6)", x.status(6), -1);
        Check.due("status(-1)", x.status(-1), -1);
        Check.due("status(MIN)", x.status(Integer.MIN_VALUE), -1);
        Check.due("status(MAX)", x.status(Integer.MAX_VALUE), -1);
    }
}
