/** Promises 4 to 8: texts, their faults, names and parts. */
public final class BookTest {
    private static final String R = Texts.R;
    private static final String M = Texts.M;

    public static void main(String[] args) {
        textFaults();
        numberFaults();
        nameFaults();
        againFaults();
        manyFaults();
        rightTexts();
        booksComeAndGo();
        names();
        parts();
        Check.close("BookTest");
    }

    private static void fault(int fault, String marked) {
        Texts.fault(fault, marked);
    }

    private static void right(int statements, String text) {
        Texts.right(statements, text);
    }

    private static void textFaults() {
        fault(1, "^");
        fault(1, " \n ^");
        fault(1, "^;");
        fault(1, "^rul");
        fault(1, "^rulee a");
        fault(1, "^Rule a");
        fault(1, "\n^\trule a");
        fault(1, "rule^");
        fault(1, "rule ^every every 1 days");
        fault(1, "rule ^mon every 1 days");
        for (String own : FaultModel.OWN) {
            fault(1, "rule ^" + own + " every 1 days from 2000-1-1;");
            fault(1, R + ";set ^" + own + " is a;");
            fault(1, R + ";set b is a off ^" + own + ";");
        }
        fault(1, "rule ^7 every 1 days");
        fault(1, "rule abcdef^g every 1 days");
        fault(1, "rule monday^s every 1 days");
        fault(1, "rule a^1 every 1 days");
        fault(1, "rule a^B every 1 days");
        fault(1, "rule a every^1 days");
        fault(1, "rule a every 1^days from");
        fault(1, "rule a every ^- 1 days");
        fault(1, "rule a every ^days");
        fault(1, "rule a every 1 ^day from");
        fault(1, "rule a every 1 days ^form 2000-1-1");
        fault(1, "rule a every 1 days from 2000^");
        fault(1, "rule a every 1 days from 2000-1^;");
        fault(1, "rule a every 1 days from 2000-^-1-1;");
        fault(1, "rule a every 1 days from 2000 ^1-1;");
        fault(1, "rule a every 1000^0 days from");
        fault(1, "rule a every 0000^1 days from");
        fault(1, "rule a every 1 days from 2000-0000^1-1;");
        fault(1, R + "^");
        fault(1, R + " \n^");
        fault(1, R + "^until 2000-1-1;");
        fault(1, R + " ^a;");
        fault(1, R + " ^from 2000-1-1;");
        fault(1, R + " in^;");
        fault(1, R + " in ^-1;");
        fault(1, R + " in 1,^;");
        fault(1, R + " in 1 ^2;");
        fault(1, R + " in 1 ^mon;");
        fault(1, R + " on -^-1;");
        fault(1, R + " on ^mon;");
        fault(1, R + " by ^;");
        fault(1, R + " by ^may;");
        fault(1, R + " by mon,^;");
        fault(1, R + " by mon ^tue;");
        fault(1, R + " by^1 mon;");
        fault(1, M + " by 1^mon;");
        fault(1, M + " by 1 ^;");
        fault(1, M + " by -^mon;");
        fault(1, R + " at ^;");
        fault(1, R + " count ^-1;");
        fault(1, R + " count 1^");
        fault(1, R + " count 1 ^2;");
        fault(1, R + " until ^mon;");
        fault(1, R + ";^x");
        fault(1, R + ";^;");
        fault(1, R + ";set ^day is a;");
        fault(1, R + ";set b ^a;");
        fault(1, R + ";set b is ^;");
        fault(1, R + ";set b is^");
        fault(1, R + ";set b is a^");
        fault(1, R + ";set b is a ^a;");
        fault(1, R + ";set b is a^1;");
        fault(1, R + ";set b is ^5;");
        fault(1, R + ";set b is ^less a;");
        fault(1, R + ";set b is a or ^;");
        fault(1, R + ";set b is a or^1;");
        fault(1, R + ";set b is a and ^or a;");
        fault(1, R + ";set b is (a^;");
        fault(1, R + ";set b is (^);");
        fault(1, R + ";set b is a^);");
        fault(1, R + ";set b is (a)^a;");
        fault(1, R + ";set b is a later ^a;");
        fault(1, R + ";set b is a later^1;");
        fault(1, R + ";set b is a off ^day 2000-1-1;");
        fault(1, R + ";set b is a off ^(a);");
        fault(1, R + ";set b is day ^a;");
        fault(1, R + ";set b is day^2000-1-1;");
        fault(1, R + ";set b is day 2000-1-1,^;");
        fault(1, R + ";set b is day 2000-1-1 , ^day 2000-1-2;");
        fault(1, R + ";set b is abcdef^gh;");
        fault(1, R + ";set b is a off abcdef^gh;");
        fault(1, R + " ^untiluntil;");
        fault(1, R + " at 1,2,3,4,5,6,7,8,^");
        fault(1, R + " at 1,2,3,4,5,6,7,8,       ^");
        fault(1, R + " in 1,2,3,4,5,6,7,8 ,\n^");
        fault(1, R + " on 1,2,3,4,-5,-6,-7,-8, ^");
        fault(1, M + " by 1 mon,mon,tue,wed,thu,fri,sat,sun, \n ^");
        fault(1, "set b is day 2000-1-1,2000-1-2,2000-1-3,2000-1-4,2000-1-5,2000-1-6,2000-1-7,2000-1-8, ^");
    }

    private static void numberFaults() {
        fault(2, "rule a every ^0 days");
        fault(2, "rule a every ^100 days");
        fault(2, "rule a every ^100days");
        fault(2, "rule a every 1 days from ^1999-1-1;");
        fault(2, "rule a every 1 days from ^2040-1-1;");
        fault(2, "rule a every 1 days from ^1999;");
        fault(2, "rule a every 1 days from 2000-^0-1;");
        fault(2, "rule a every 1 days from 2000-^13-1;");
        fault(2, "rule a every 1 days from 2000-1-^0;");
        fault(2, "rule a every 1 days from 2000-1-^32;");
        fault(2, "rule a every 1 days from 2000 - 4 - ^31;");
        fault(2, "rule a every 1 days from 2001-2-^29;");
        fault(2, "rule a every 1 days from 2000-2-^30;");
        fault(2, R + " in ^0;");
        fault(2, R + " in 1,^13;");
        fault(2, R + " on ^0;");
        fault(2, R + " on -^0;");
        fault(2, R + " on ^32;");
        fault(2, R + " on - ^32;");
        fault(2, M + " by ^0 mon;");
        fault(2, M + " by ^54 mon;");
        fault(2, M + " by -^54 mon;");
        fault(2, R + " at ^0;");
        fault(2, R + " at ^100;");
        fault(2, R + " at -^100;");
        fault(2, R + " count ^0;");
        fault(2, R + " count ^1000;");
        fault(2, R + " until 2039-12-^32;");
        fault(2, R + ";set b is a later ^0;");
        fault(2, R + ";set b is a later ^100;");
        fault(2, R + ";set b is a sooner 99 sooner ^100;");
        fault(2, R + ";set b is day 2000-1-1,2000-1-^32;");
    }

    private static void nameFaults() {
        fault(3, R + ";rule ^a every 1 days from 2000-1-1;");
        fault(3, R + ";rule ^a1");
        fault(3, R + ";set ^a is a;");
        fault(3, R + ";set b is a;set ^b is a;");
        fault(3, R + ";set b is a;rule ^b every");
        fault(3, "set b is ^a;" + R + ";");
        fault(3, R + ";set b is ^b;");
        fault(3, R + ";set b is a or ^aa;");
        fault(3, R + ";set b is a off ^b;");
        fault(3, R + ";set b is (a less ^c;");
        fault(3, "set b is ^abcdef;");
    }

    private static void againFaults() {
        fault(4, R + " in 1 ^in 2;");
        fault(4, R + " on 1 ^on");
        fault(4, R + " by mon ^by tue;");
        fault(4, R + " at 1 on 1 ^at 2;");
        fault(4, R + " until 2000-1-1 ^until 2000-1-1;");
        fault(4, R + " count 1 ^count 0;");
        fault(4, R + " by ^1 mon;");
        fault(4, R + " by mon , ^- 1 mon;");
        fault(4, "rule a every 1 weeks from 2000-1-1 by ^-99 mon;");
        fault(4, R + " in 1,2,^1;");
        fault(4, R + " in 1,^01;");
        fault(4, R + " on -1,1,^-1;");
        fault(4, R + " by mon,tue,^mon;");
        fault(4, M + " by 2 mon,-2 mon,mon,^2 mon;");
        fault(4, M + " by - 2 mon , ^- 2 mon;");
        fault(4, R + " at 7,-7,^7;");
        fault(4, R + ";set b is day 2000-1-1,2000-1-2,^2000-01-01;");
    }

    private static void manyFaults() {
        StringBuilder six = new StringBuilder();
        StringBuilder sets = new StringBuilder();
        for (char c = 'a'; c < 'g'; c++) {
            six.append("rule ").append(c).append(" every 1 days from 2000-1-1;");
            sets.append("set s").append(c).append(" is a;");
        }
        fault(5, six + "^rule g every 1 days from 2000-1-1;");
        fault(5, six + "^rule");
        fault(5, six + "" + sets + " ^set g is a;");
        fault(5, six + "" + sets + " ^rule");
        right(12, six + "" + sets);
        fault(5, R + " in 1,2,3,4,5,6,7,8,^9;");
        fault(5, R + " in 1,2,3,4,5,6,7,8,^x;");
        fault(5, R + " on 1,2,3,4,5,6,7,8, ^9;");
        fault(5, R + " at 1,2,3,4,5,6,7,8,\n ^-9;");
        fault(5, R + " at 1,2,3,4,5,6,7,8, ^;");
        fault(5, R + " at 1,2,3,4,5,6,7,8,^12345;");
        fault(5, R + " at 1,2,3,4,5,6,7,8,^#");
        fault(5, R + " at 1,2,3,4,5,6,7,8 ,^8;");
        fault(5, M + " by 1 mon,mon,tue,wed,thu,fri,sat,sun,^2 mon;");
        fault(5, "set b is day 2000-1-1,2000-1-2,2000-1-3,2000-1-4,2000-1-5,2000-1-6,2000-1-7,2000-1-8,^2000-1-9;");
        fault(5, "set b is day 2000-1-1,2000-1-2,2000-1-3,2000-1-4,2000-1-5,2000-1-6,2000-1-7,2000-1-8, ^2000-1-9;");
        fault(5, R + ";set b is ((((((^(a)))))));");
        fault(5, R + ";set b is ((((((a)or a)or a)or a)or(a)or((((^(a");
        right(2, R + ";set b is ((((((a))))))or((((((a))))));");
        right(1, R + " in 1,2,3,4,5,6,7,8;");
    }

    private static void rightTexts() {
        right(1, R + ";");
        right(1, "\n rule a\nevery 1 days from 2000 - 1 - 1 ; \n");
        right(1, "rule a every 0099 years from 2039-12-31 count 999 until 2000-01-01 at -99,99 by -53 sun,53 sun on -31,31 in 12;");
        right(1, "set a is day 2000-1-1;");
        right(2, R + ";set abcdef is(a)or(day 2000-1-1,2000-1-2)less a later 1 sooner 99 off a and a;");
        right(1, M + " by mon,1 mon,-1 mon,2 mon;");
        right(1, R + " until 2000-1-1;");
    }

    private static void booksComeAndGo() {
        FeastRules x = Check.made(R + ";set b is a;");
        Check.due("seed", x.seed(5), true);
        Check.due("add refused", x.add(0, 3), false);
        Check.due("leave", x.leave(0, 3), true);
        Check.due("every", x.every(0, 2), true);
        Check.due("see", Check.see(x, 0, 0, 1), 1);
        Check.due("book() with a fault", Check.book(x, "set"), -1);
        Check.due("fault(0)", x.fault(0), 1);
        int[] stays = {1, 1, 0, 1, 1, 2};
        for (int i = 0; i < 6; i++) {
            Check.due("has(" + i + ") stays", x.has(i), stays[i]);
        }
        Check.due("rule(0, 0) stays", x.rule(0, 0), 2);
        Check.due("on(6, 2) stays", x.on(6, 2), 1);
        Check.due("letter stays", x.letter(6, 0), 2);
        Check.due("undo", x.undo(), true);
        Check.due("another book()", Check.book(x, "set q is day 2000-1-2;rule r every 1 days from 2000-1-1;"), 2);
        int[] fresh = {1, 1, 0, 0, 0, 0};
        for (int i = 0; i < 6; i++) {
            Check.due("has(" + i + ") is new", x.has(i), fresh[i]);
        }
        Check.due("fault(0) is gone", x.fault(0), 0);
        Check.due("fault(1) is gone", x.fault(1), -1);
        Check.due("fits", x.fits(-1), -1);
        Check.due("undo", x.undo(), false);
        Check.days(x, 6, 1);
        // The seed stays: it is still 5.
        long seed = (1103515245L * 5 + 12345) % (1L << 31);
        seed = (1103515245L * seed + 12345) % (1L << 31);
        Check.due("chance", x.chance(1), 1);
        Check.due("the day drawn", x.on(6, (int) (seed / 64 % 14610)), 1);
        Check.due("has(6)", x.has(6), -1);
        Check.due("has(-1)", x.has(-1), -1);
    }

    private static void names() {
        FeastRules x = Check.made("rule az every 1 days from 2000-1-1;set abcxyz is az;set m is az;rule qq every 2 days from 2000-1-1;");
        int[][] want = {{1, 26, 0, 0, 0, 0}, {17, 17, 0, 0, 0, 0}, {1, 2, 3, 24, 25, 26}, {13, 0, 0, 0, 0, 0}};
        int[] whats = {0, 1, 6, 7};
        for (int i = 0; i < 4; i++) {
            for (int k = 0; k < 6; k++) {
                Check.due("letter(" + whats[i] + ", " + k + ")", x.letter(whats[i], k), want[i][k]);
            }
            Check.due("letter -1", x.letter(whats[i], -1), -1);
            Check.due("letter 6", x.letter(whats[i], 6), -1);
        }
        for (int what : new int[] {-1, 2, 5, 8, 11, 12, Integer.MAX_VALUE, Integer.MIN_VALUE}) {
            Check.due("letter(" + what + ", 0)", x.letter(what, 0), -1);
        }
    }

    private static void parts() {
        FeastRules x = Check.made("rule a every 99 years from 2039-12-31 in 12,1,3 on 5,-1 by mon,2 tue,-3 wed at 1,-1,4,5 until 2001-1-1 count 999;"
            + "rule b every 7 days from 2000-3-1;rule c every 2 weeks from 2000-1-3;rule d every 3 months from 2000-1-1;");
        int[] want = {99, 3, 14609, 1 << 12 | 1 << 1 | 1 << 3, 2, 3, 4, 366, 999};
        int[] plain = {7, 0, 60, 0, 0, 0, 0, -1, -1};
        for (int i = 0; i < 9; i++) {
            Check.due("rule(0, " + i + ")", x.rule(0, i), want[i]);
            Check.due("rule(1, " + i + ")", x.rule(1, i), plain[i]);
        }
        Check.due("unit of weeks", x.rule(2, 1), 1);
        Check.due("unit of months", x.rule(3, 1), 2);
        Check.due("rule(0, 9)", x.rule(0, 9), -1);
        Check.due("rule(0, -1)", x.rule(0, -1), -1);
        Check.due("rule(4, 0)", x.rule(4, 0), -1);
        Check.due("rule(-1, 0)", x.rule(-1, 0), -1);
        Check.due("rule(6, 0)", x.rule(6, 0), -1);
        // Parts of an earlier book must not come through.
        for (int i = 0; i < 2; i++) {
            Check.due("book() anew", Check.book(x, "rule a every 1 days from 2000-1-1;"), 1);
        }
        int[] bare = {1, 0, 0, 0, 0, 0, 0, -1, -1};
        for (int i = 0; i < 9; i++) {
            Check.due("rule(0, " + i + ") anew", x.rule(0, i), bare[i]);
        }
        Check.due("days of it", x.many(0, 0, 14609), 14610);
        rowsAnew();
    }

    private static void rowsAnew() {
        FeastRules x = new FeastRules();
        for (int i = 1; i <= 6; i++) {
            String rest = " in " + i + " on " + i + ",-" + (i + 9) + " by " + Model.WEEKDAYS[i] + " at " + i + ",9";
            FeastRules y = Check.made("rule a every 1 years from 2000-1-1" + rest + ";set b is day 2000-1-" + i + ";");
            Check.book(x, "rule a every 1 years from 2000-1-1" + rest + ";set b is day 2000-1-" + i + ";");
            Check.due("rule, book " + i, x.sum(0), y.sum(0));
            Check.due("months, book " + i, x.rule(0, 3), 1 << i);
            Check.days(x, 6, i - 1);
            Check.due("a book of a set alone", Check.book(x, "set b is day 2000-2-" + i + ";"), 1);
            Check.days(x, 6, 30 + i);
            Check.due("another one", Check.book(x, "set c is day 2000-3-" + i + ";"), 1);
            Check.days(x, 6, 59 + i);
        }
    }
}
