/** Boundary cases of the text of a book, its names, its faults and their places (terms, I). */
public final class EdgeTextTest {
    private static final String R = Texts.R;
    private static final String M = Texts.M;
    private static final String S = Texts.S;
    private static final String[] UNITS = {"days", "weeks", "months", "years"};
    private static final String EIGHT_DAYS = "day 2000-1-1,2000-1-2,2000-1-3,2000-1-4,2000-1-5,2000-1-6,2000-1-7,2000-1-8";
    private static final String EIGHT_BY = " by mon,tue,wed,thu,fri,sat,sun,1 mon";

    public static void main(String[] args) throws ReflectiveOperationException {
        Edges.run(EdgeTextTest.class);
    }

    private static void fault(int fault, String marked) {
        Texts.fault(fault, marked);
    }

    private static void right(String text) {
        Texts.right(text.split(";", -1).length - 1, text);
    }

    /** A part with a row of numbers: the last that can be on each side, and the first that can't. */
    private static void places(String part, int most) {
        right(M + part + " 1;");
        right(M + part + " " + most + ";");
        right(M + part + " -1;");
        right(M + part + " -" + most + ";");
        fault(2, M + part + " ^0;");
        fault(2, M + part + " -^0;");
        fault(2, M + part + " ^" + (most + 1) + ";");
        fault(2, M + part + " -^" + (most + 1) + ";");
        fault(2, M + part + " 1,^9999;");
        emptyRow(R, part);
    }

    /** A row has one at least, and one behind each comma. */
    private static void emptyRow(String rule, String part) {
        fault(1, rule + part + "^;");
        fault(1, rule + part + " ^,1;");
        fault(1, rule + part + " ^a;");
        fault(1, rule + part + " ^until 2000-1-1;");
        fault(1, rule + part + (part.equals(" by") ? " mon" : " 1") + ",^;");
        fault(1, rule + part + (part.equals(" by") ? " mon" : " 1") + ",^,2;");
    }

    private static void statements() {
        right("set a is day 2000-1-1;");
        right("set a is day 2000-1-1;set b is a;");
        fault(1, "set a is day 2000-1-1^");
        fault(1, "set a is day 2000-1-1;set b is a^");
        fault(1, "^;");
        fault(1, "set a is day 2000-1-1;^;");
    }

    private static void stepOfARule() {
        for (String unit : UNITS) {
            right("rule a every 1 " + unit + " from 2000-1-1;");
            right("rule a every 99 " + unit + " from 2000-1-1;");
            fault(2, "rule a every ^0 " + unit + " from 2000-1-1;");
            fault(2, "rule a every ^100 " + unit + " from 2000-1-1;");
            fault(2, "rule a every ^9999 " + unit + " from 2000-1-1;");
        }
        Check.due("N 1", Check.made("rule a every 1 days from 2000-1-1;").rule(0, 0), 1);
        Check.due("N 99", Check.made("rule a every 99 days from 2000-1-1;").rule(0, 0), 99);
    }

    private static void units() {
        for (int unit = 0; unit < 4; unit++) {
            Check.due(UNITS[unit], Check.made("rule a every 1 " + UNITS[unit] + " from 2000-1-1;").rule(0, 1), unit);
            fault(1, "rule a every 1 ^" + UNITS[unit].substring(0, UNITS[unit].length() - 1) + " from 2000-1-1;");
            fault(1, "rule a every 1 ^" + UNITS[unit] + "s from 2000-1-1;");
        }
    }

    private static void sixRules() {
        Texts.right(6, Texts.rules(6));
        Texts.right(8, Texts.rules(6) + Texts.sets(2));
        fault(5, Texts.rules(6) + "^rule g every 1 days from 2000-1-1;");
        fault(5, Texts.rules(6) + Texts.sets(6) + "^rule g every 1 days from 2000-1-1;");
    }

    private static void sixSets() {
        Texts.right(6, Texts.sets(6));
        Texts.right(12, Texts.sets(6) + Texts.rules(6));
        fault(5, Texts.sets(6) + "^set sg is day 2000-1-1;");
        fault(5, Texts.sets(6) + Texts.rules(6) + "^set sg is day 2000-1-1;");
    }

    private static void partsOnce() {
        String all = " in 1 on 1 by mon at 1 until 2000-1-1 count 1";
        right(R + all + ";");
        right(R + " count 1 until 2000-1-1 at 1 by mon on 1 in 1;");
        for (String part : new String[] {"in 2", "on 2", "by tue", "at 2", "until 2000-1-2", "count 2"}) {
            right(R + " " + part + ";");
            fault(4, R + " " + part + " ^" + part + ";");
            fault(4, R + all + " ^" + part + ";");
        }
    }

    private static void monthsOfIn() {
        right(R + " in 1;");
        right(R + " in 12;");
        fault(2, R + " in ^0;");
        fault(2, R + " in ^13;");
        fault(2, R + " in 1,12,^13;");
        fault(1, R + " in ^-1;");
        emptyRow(R, " in");
        Check.due("in 1,12", Check.made(R + " in 1,12;").rule(0, 3), 1 << 1 | 1 << 12);
    }

    private static void placesOfOn() {
        places(" on", 31);
    }

    private static void placesOfBy() {
        for (String unit : new String[] {"months", "years"}) {
            String rule = "rule a every 1 " + unit + " from 2000-1-1 by ";
            for (int place : new int[] {-53, -1, 1, 53}) {
                right(rule + place + " mon;");
            }
            fault(2, rule + "^0 mon;");
            fault(2, rule + "-^0 mon;");
            fault(2, rule + "^54 mon;");
            fault(2, rule + "-^54 mon;");
            fault(1, rule + "1^;");
            fault(1, rule + "1 ^,2 mon;");
            fault(1, rule + "mon ^1;");
        }
        emptyRow(R, " by");
        emptyRow(M, " by");
        emptyRow("rule a every 1 weeks from 2000-1-1", " by");
    }

    private static void placesOfByWithMonthsAndYearsAlone() {
        for (String unit : new String[] {"days", "weeks"}) {
            String rule = "rule a every 1 " + unit + " from 2000-1-1 by ";
            right(rule + "mon;");
            right(rule + "mon,tue,wed,thu,fri,sat,sun;");
            fault(4, rule + "^1 mon;");
            fault(4, rule + "^-1 mon;");
            fault(4, rule + "^53 mon;");
            fault(4, rule + "mon,^-53 tue;");
        }
    }

    private static void placesOfAt() {
        places(" at", 99);
    }

    private static void daysOfUntil() {
        Check.due("until the first day", Check.made(R + " until 2000-1-1;").rule(0, 7), 0);
        Check.due("until the last day", Check.made(R + " until 2039-12-31;").rule(0, 7), 14609);
        fault(2, R + " until ^1999-12-31;");
        fault(2, R + " until ^2040-1-1;");
        fault(2, R + " until 2000-1-^0;");
        fault(2, R + " until 2039-12-^32;");
    }

    private static void numbersOfCount() {
        Check.due("count 1", Check.made(R + " count 1;").rule(0, 8), 1);
        Check.due("count 999", Check.made(R + " count 999;").rule(0, 8), 999);
        fault(2, R + " count ^0;");
        fault(2, R + " count ^1000;");
        fault(1, R + " count ^-1;");
    }

    private static void eightOfARow() {
        FeastRules x = Check.made(M + " in 1,2,3,4,5,6,7,8 on 1,2,3,4,-1,-2,-3,-4" + EIGHT_BY + " at 1,2,3,4,-1,-2,-3,-4;");
        Check.due("months of in", x.rule(0, 3), 510);
        for (int what = 4; what <= 6; what++) {
            Check.due("rule(0, " + what + ")", x.rule(0, what), 8);
        }
        fault(5, M + " in 1,2,3,4,5,6,7,8,^9;");
        fault(5, M + " on 1,2,3,4,-1,-2,-3,-4,^5;");
        fault(5, M + EIGHT_BY + ",^2 mon;");
        fault(5, M + " at 1,2,3,4,-1,-2,-3,-4,^-5;");
    }

    private static void unlikeInARow() {
        right(M + " on 1,-1,2,-2;");
        right(M + " at 1,-1,2,-2;");
        right(M + " by mon,1 mon,-1 mon,2 mon,tue,1 tue;");
        fault(4, R + " in 1,2,3,4,5,6,7,^7;");
        fault(4, R + " in 3,^03;");
        fault(4, M + " on 1,-1,^1;");
        fault(4, M + " on 1,-1,^-1;");
        fault(4, M + " on -7,^- 07;");
        fault(4, M + " by mon,^mon;");
        fault(4, M + " by 1 mon,1 tue,^1 mon;");
        fault(4, M + " by -1 mon,1 mon,^-1 mon;");
        fault(4, M + " at 99,-99,^99;");
    }

    private static void weekdays() {
        String[] names = {"mon", "tue", "wed", "thu", "fri", "sat", "sun"};
        for (int i = 0; i < 7; i++) {
            FeastRules x = Check.made(R + " by " + names[i] + ";");
            Check.due("weekday of " + names[i], x.date(x.nth(0, 0), 3), i);
            fault(1, R + " by ^" + names[i].substring(0, 2) + ";");
            fault(1, R + " by ^" + names[i] + "s;");
        }
    }

    private static void signOfAPlace() {
        right(M + " on - 1;");
        right(M + " on -\n1;");
        fault(1, M + " on -^-1;");
        fault(1, M + " on ^+1;");
        fault(1, M + " on -^;");
        fault(1, M + " on -^");
        fault(1, M + " by -^mon;");
    }

    private static void dates() {
        right("set a is day 2000-1-1,2039-12-31;");
        right("set a is day 2000-2-29,2001-2-28,2036-2-29,2039-2-28;");
        fault(2, "set a is day ^1999-12-31;");
        fault(2, "set a is day ^2040-1-1;");
        fault(2, "set a is day ^0-1-1;");
        fault(2, "set a is day 2000-^0-1;");
        fault(2, "set a is day 2000-^13-1;");
        fault(2, "set a is day 2000-2-^30;");
        fault(2, "set a is day 2001-2-^29;");
        fault(2, "set a is day 2039-2-^29;");
        int[] last = {31, 29, 31, 30, 31, 30, 31, 31, 30, 31, 30, 31};
        for (int month = 1; month <= 12; month++) {
            right("set a is day 2000-" + month + "-1,2000-" + month + "-" + last[month - 1] + ";");
            fault(2, "set a is day 2000-" + month + "-^0;");
            fault(2, "set a is day 2000-" + month + "-^" + (last[month - 1] + 1) + ";");
        }
    }

    private static void laterAndSooner() {
        for (String way : new String[] {"later", "sooner"}) {
            right(S + "a " + way + " 1;");
            right(S + "a " + way + " 99;");
            fault(2, S + "a " + way + " ^0;");
            fault(2, S + "a " + way + " ^100;");
            fault(1, S + "a " + way + " ^-1;");
        }
        Check.days(Check.made("set a is day 2000-4-9 sooner 99;"), 6, 0);
        Check.days(Check.made("set a is day 2039-9-23 later 99;"), 6, 14609);
    }

    private static void emptySums() {
        fault(1, S + "^;");
        fault(1, S + "(^);");
        fault(1, S + "(a^;");
        fault(1, S + "a^);");
        fault(1, S + "((a)^;");
        for (String word : new String[] {"or", "and", "less", "later", "sooner", "off"}) {
            fault(1, S + "^" + word + " a;");
            fault(1, S + "a " + word + "^;");
            fault(1, S + "(a " + word + "^);");
            fault(1, S + "a " + word + " ^or a;");
        }
        fault(1, S + "a later ^a;");
        fault(1, S + "a off ^1;");
        fault(1, S + "a off ^(a);");
        fault(1, S + "day^;");
        fault(1, S + "day ^a;");
        fault(1, S + "day 2000-1-1,^;");
        fault(1, S + "a ^a;");
        fault(1, S + "a ^(a);");
        right(S + "a;");
        right(S + "(a);");
    }

    private static void eightDaysTold() {
        Check.days(Check.made("set a is " + EIGHT_DAYS + ";"), 6, 0, 1, 2, 3, 4, 5, 6, 7);
        fault(5, "set a is " + EIGHT_DAYS + ",^2000-1-9;");
        // Each row of a sum has its own eight.
        right("set a is " + EIGHT_DAYS + " or " + EIGHT_DAYS + ";");
    }

    private static void namesToldAhead() {
        right(R + ";set b is a;set c is b;");
        right(R + ";set b is day 2000-1-1 off a;");
        fault(3, "set b is ^a;" + R + ";");
        fault(3, R + ";set b is ^b;");
        fault(3, R + ";set b is ^c;set c is a;");
        fault(3, R + ";set b is a off ^c;set c is a;");
    }

    private static void lettersOfAName() {
        right("set a is day 2000-1-1;set b is a;");
        right("set abcdef is day 2000-1-1;set b is abcdef;");
        fault(1, "set abcdef^g is day 2000-1-1;");
        fault(1, "set abcdef is day 2000-1-1;set b is abcdef^g;");
        fault(1, "set ^is day 2000-1-1;");
        fault(1, "set ^1 is day 2000-1-1;");
        right("set az is day 2000-1-1;");
        fault(1, "set ^`az is day 2000-1-1;");
        fault(1, "set a^`z is day 2000-1-1;");
        fault(1, "set a^{ is day 2000-1-1;");
        fault(1, "set ^A is day 2000-1-1;");
        fault(1, "set ^Z is day 2000-1-1;");
    }

    private static void namesUnlike() {
        right("set a is day 2000-1-1;set aa is a;set aaaaaa is a;set aaaaa is a;");
        fault(3, R + ";rule ^a every 1 days from 2000-1-1;");
        fault(3, R + ";set ^a is day 2000-1-1;");
        fault(3, "set b is day 2000-1-1;set ^b is day 2000-1-1;");
        fault(3, "set b is day 2000-1-1;rule ^b every 1 days from 2000-1-1;");
        fault(3, "set abcdef is day 2000-1-1;set ^abcdef is day 2000-1-1;");
        right("set abcdef is day 2000-1-1;set abcdeg is day 2000-1-1;");
    }

    private static void noOwnWordAsName() {
        Check.due("own words", FaultModel.OWN.size(), 29);
        for (String own : FaultModel.OWN) {
            fault(1, "rule ^" + own + " every 1 days from 2000-1-1;");
            fault(1, "set ^" + own + " is day 2000-1-1;");
            if (!own.equals("day")) {
                fault(1, S + "^" + own + ";");
            }
            fault(1, S + "a off ^" + own + ";");
            right(own.length() < 6 ? "set " + own + "x is day 2000-1-1;" : R + ";");
            String shorter = own.substring(0, own.length() - 1);
            right(FaultModel.OWN.contains(shorter) ? R + ";" : "set " + shorter + " is day 2000-1-1;");
        }
    }

    private static void digitsOfANumber() {
        right("rule a every 1 days from 2000-1-1;");
        right("rule a every 0001 days from 2000-0001-0001 count 0999;");
        fault(1, "rule a every 0000^1 days from 2000-1-1;");
        fault(1, "rule a every 1 days from 2000^0-1-1;");
        fault(1, "rule a every 1 days from 2000-0000^1-1;");
        fault(1, "rule a every 1 days from 2000-1-0000^1;");
        fault(1, R + " count 0000^1;");
        fault(1, R + " in 0000^1;");
        fault(1, R + " on -0000^1;");
        fault(1, M + " by 0000^1 mon;");
        fault(1, R + " at 0000^1;");
        fault(1, S + "a later 0000^1;");
        fault(1, "rule a every ^days from 2000-1-1;");
    }

    private static void blanks() {
        right("\n rule \n a every\n\n1 days from\n2000 \n-\n1 - 1 \n;\n");
        right("set a is(day 2000-1-1)or(day 2000-1-2);");
        for (int sign : new int[] {0, 1, 9, 11, 13, 31, 33, 127, 128, 138, 160, 255}) {
            fault(1, "^" + (char) sign + "set a is day 2000-1-1;");
            fault(1, "set a^" + (char) sign + "is day 2000-1-1;");
            fault(1, "set a is day 2000-1-1;^" + (char) sign);
        }
    }

    private static void blanksBetweenWordsAndNumbers() {
        fault(1, "rule a every^1 days from 2000-1-1;");
        fault(1, "rule a every 1^days from 2000-1-1;");
        fault(1, "rule a every 1 days from^2000-1-1;");
        fault(1, "rule a every 1 days from 2000-1-1^until 2000-1-1;");
        fault(1, R + " on 1^by mon;");
        fault(1, M + " by 1^mon;");
        fault(1, S + "a later 1^or a;");
        fault(1, "^rulea every 1 days from 2000-1-1;");
        right("rule a every\n1\ndays from 2000-1-1\nuntil 2000-1-1;");
        right(M + " by-1 mon on-1 at-1;");
    }

    private static void firstFaultAlongTheText() {
        fault(2, "rule a every ^0 dayss from 1999-1-1");
        fault(1, "rule a every 1 ^dayss from 1999-1-1");
        fault(2, "rule a every 1 days from ^1999-1-1 in 13 in 13");
        fault(2, R + " in ^13 in 13;");
        fault(4, R + " in 12 ^in 13;");
        fault(3, R + ";rule ^a every 0 days;");
        fault(2, "rule a every ^100days");
        fault(3, R + ";rule ^a1");
        fault(4, R + " in 1,2,3,4,5,6,7,^7,9;");
    }

    private static void wordsAndNumbersWhole() {
        fault(1, "^rul a every 1 days from 2000-1-1;");
        fault(1, "^rules a every 1 days from 2000-1-1;");
        fault(1, "rule a ^ever 1 days from 2000-1-1;");
        fault(1, "rule a ^everyy 1 days from 2000-1-1;");
        fault(1, "rule a ^7777 1 days from 2000-1-1;");
        fault(1, R + " ^unti 2000-1-1;");
        fault(1, S + "a ^ore a;");
        otherLetters("", "rule", " a every 1 days from 2000-1-1;");
        otherLetters("rule a ", "every", " 1 days from 2000-1-1;");
        for (String unit : UNITS) {
            otherLetters("rule a every 1 ", unit, " from 2000-1-1;");
        }
        otherLetters("rule a every 1 days ", "from", " 2000-1-1;");
        for (String part : new String[] {"in", "on", "at", "count"}) {
            otherLetters(R + " ", part, " 1;");
        }
        otherLetters(R + " ", "by", " mon;");
        otherLetters(R + " ", "until", " 2000-1-1;");
        otherLetters(R + ";", "set", " b is a;");
        otherLetters(R + ";set b ", "is", " a;");
        for (String word : new String[] {"or", "and", "less", "off"}) {
            otherLetters(S + "a ", word, " a;");
        }
        otherLetters(S + "a ", "later", " 1;");
        otherLetters(S + "a ", "sooner", " 1;");
        for (String day : new String[] {"mon", "tue", "wed", "thu", "fri", "sat", "sun"}) {
            otherLetters(R + " by ", day, ";");
        }
        fault(1, S + "a ^12;");
    }

    /** Each word of a text with another letter in one place of it is none. */
    private static void otherLetters(String ahead, String word, String behind) {
        for (int i = 0; i < word.length(); i++) {
            fault(1, ahead + "^" + word.substring(0, i) + "q" + word.substring(i + 1) + behind);
        }
        right(ahead + word + behind);
    }

    private static void ownWordWhereANameIsAsked() {
        fault(1, "rule ^every every 1 days from 2000-1-1;");
        fault(1, "set ^sooner is day 2000-1-1;");
        fault(1, S + "^or;");
        fault(1, S + "a off ^off;");
        // What is no OWN WORD is a NAME there, and none that is told.
        fault(3, S + "^dax;");
        fault(3, S + "^xay 2000-1-1;");
    }

    private static void seventhLetter() {
        right("rule abcdef every 1 days from 2000-1-1;");
        fault(1, "rule abcdef^g every 1 days from 2000-1-1;");
        fault(1, "rule abcdef^ghijklmnop every 1 days from 2000-1-1;");
        fault(1, "rule sooner^x every 1 days from 2000-1-1;");
        fault(1, S + "a off abcdef^g;");
        // It comes ahead of the question whether the name is there.
        fault(1, "rule abcdef every 1 days from 2000-1-1;rule abcdef^g every 1 days from 2000-1-1;");
    }

    private static void fifthDigit() {
        fault(1, "rule a every 0099^9 days from 2000-1-1;");
        fault(1, "rule a every 1234^5678 days from 2000-1-1;");
        fault(1, S + "a sooner 9999^9;");
    }

    private static void textEndsTooSoon() {
        String whole = "rule ab every 12 weeks from 2000-1-31 in 1,2 on -3 by mon at 4 until 2001-1-1 count 5;set s is(ab off ab later 6)less day 2000-1-1;";
        right(whole);
        for (int cut = 0; cut < whole.length(); cut++) {
            String text = whole.substring(0, cut);
            boolean said = text.isEmpty() || !text.endsWith(";") && !isCutWord(whole, cut);
            if (said) {
                fault(1, text + "^");
                fault(1, text + "  \n^");
            }
        }
        right(whole.substring(0, whole.indexOf(';') + 1));
    }

    /** Whether a text cut there ends within a word or a number, which then stands for another one. */
    private static boolean isCutWord(String text, int cut) {
        return Character.isLetterOrDigit(text.charAt(cut - 1)) && Character.isLetterOrDigit(text.charAt(cut));
    }

    private static void numbersThatCantBe() {
        fault(2, "rule a every ^0 days from 2000-1-1;");
        fault(2, R + " in ^13;");
        fault(2, R + " on -^32;");
        fault(2, M + " by - ^54 mon;");
        fault(2, R + " at -^100;");
        fault(2, R + " count ^1000;");
        fault(2, S + "a later ^100;");
        fault(2, "set a is day ^1999-13-32;");
        fault(2, "set a is day 2000-^13-32;");
        fault(2, "set a is day 2000-12-^32;");
    }

    private static void dateThatThereIsNot() {
        right("set a is day 2004-2-29;");
        fault(2, "set a is day 2003-2-^29;");
        fault(2, "set a is day 2003 - 2 - ^29;");
        fault(2, "rule a every 1 days from 2000-4-^31;");
        fault(2, R + " until 2000-6-^31;");
        fault(2, "set a is day 2000-9-30,2000-9-^31;");
    }

    private static void namesAtFault() {
        fault(3, R + ";rule  ^a every 1 days from 2000-1-1;");
        fault(3, R + ";set \n^a is day 2000-1-1;");
        fault(3, S + "a or  ^c;");
        fault(3, S + "(a less ^c);");
        fault(3, S + "a off  ^c;");
        fault(3, S + "^abcdef;");
    }

    private static void partThatWasThere() {
        fault(4, R + " in 1 ^in");
        fault(4, R + " in 1  ^in 1;");
        fault(4, R + " count 1 until 2000-1-1 ^count 0;");
        fault(4, "rule a every 1 days from 2000-1-1 until 2000-1-1 ^until");
        // Another rule has its own parts.
        right(R + " in 1;rule c every 1 days from 2000-1-1 in 1;");
    }

    private static void placeWhereItCantBe() {
        fault(4, R + " by ^1 mon;");
        fault(4, R + " by  ^- 1 mon;");
        fault(4, R + " by mon, ^2 tue;");
        fault(4, "rule a every 1 weeks from 2000-1-1 by ^-1 mon;");
        right("rule a every 1 months from 2000-1-1 by -1 mon;");
        right("rule a every 1 years from 2000-1-1 by -1 mon;");
    }

    private static void whatIsInItsRow() {
        fault(4, R + " in 1, ^1;");
        fault(4, R + " on -1, ^- 1;");
        fault(4, R + " by sun,mon,tue,wed,thu,fri,sat, ^sun;");
        fault(4, M + " by -2 sun, ^- 2 sun;");
        fault(4, R + " at 1,2,3,4,5,6,7, ^1;");
        fault(4, "set a is day 2000-1-1,2000-1-2, ^2000-1-1;");
        // A row is a row of its own.
        right(R + " on 1 at 1 in 1;");
        right("set a is day 2000-1-1 or day 2000-1-1;");
    }

    private static void seventhRuleOrSet() {
        fault(5, Texts.rules(6) + " ^rule");
        fault(5, Texts.sets(6) + "\n^set");
        fault(1, Texts.rules(6) + "^rul");
        fault(1, Texts.sets(6) + "^sets");
    }

    private static void ninthOfARow() {
        String[] rows = {R + " in 1,2,3,4,5,6,7,8", R + " on 1,2,3,4,5,6,7,-8", M + EIGHT_BY, R + " at -1,2,3,4,5,6,7,8", "set a is " + EIGHT_DAYS};
        String[] ninth = {"9", "9", "3 mon", "9", "2000-1-9"};
        for (int i = 0; i < rows.length; i++) {
            right(rows[i] + ";");
            fault(5, rows[i] + ",^" + ninth[i] + ";");
            fault(5, rows[i] + " ,^" + ninth[i] + ";");
            fault(5, rows[i] + ",^;");
        }
    }

    private static void ninthOfARowAtTheEnd() {
        String[] rows = {R + " in 1,2,3,4,5,6,7,8", R + " on 1,2,3,4,5,6,7,-8", M + EIGHT_BY, R + " at -1,2,3,4,5,6,7,8", "set a is " + EIGHT_DAYS};
        for (String row : rows) {
            fault(1, row + ",^");
            fault(1, row + ", ^");
            fault(1, row + " ,\n \n^");
        }
    }

    private static void seventhOpen() {
        right(S + "((((((a))))));");
        right(S + "((((((a))))))or((((((a))))));");
        right(S + "((((((a)or a)or(a)or a)or a)or(a)or a)or a);");
        fault(5, S + "((((((^(a)))))));");
        fault(5, S + "((((((a)or(^(a");
        fault(5, S + "a or((((((^(");
        for (String word : new String[] {"or", "and", "less"}) {
            // Those that are open around it count behind each word, those that are closed or stand side by side do not.
            fault(5, S + "(((a " + word + "(((^(a");
            fault(5, S + "(a " + word + " a " + word + "(((((^(a");
            fault(5, S + "((((((a " + word + "^(a");
            fault(5, S + "(((((a " + word + "(a later 1 " + word + "^(a");
            right(S + "(a " + word + " a " + word + " a " + word + "(((((a))))));");
            right(S + "(((" + "(((a)))" + word + "(((a)))" + word + "(((a)))" + ")));");
        }
        Check.days(Check.made(sixOpen(" count 9", "less")), 6, 0, 1, 2, 3, 5, 6, 7, 8, 31);
        Check.days(Check.made(sixOpen("", "and")), 6, 4, 31, 32, 33, 34, 35, 36, 37);
    }

    /** Six that are open, each one behind a day of its own and the rule a, which wait for what is in it. */
    private static String sixOpen(String part, String word) {
        String rules = "rule a every 1 days from 2000-1-1" + part + ";rule b every 1 days from 2000-1-1 count 1;";
        StringBuilder deep = new StringBuilder(rules + "set s is ");
        for (int open = 1; open <= 6; open++) {
            deep.append("b later ").append(30 + open).append(" or a ").append(word).append("(");
        }
        return deep + "b later 37 or a " + word + " b later 4" + "))))));";
    }
}
