import java.util.Random;

/** Promises 4 and 5: texts with a byte or a piece that is wrong, faults and places compared with the plain reader. */
public final class RandomFaultsTest {
    private static final String[] PIECES = {"rule", "every", "days", "weeks", "months", "years", "from", "in", "on", "by",
        "at", "until", "count", "set", "is", "or", "and", "less", "later", "sooner", "off", "day", "mon", "sun", "a", "b",
        "abcdef", "abcdefg", "zz", "0", "1", "-1", "13", "31", "32", "53", "54", "99", "100", "999", "1000", "00001", "12345",
        "2000-1-1", "2039-12-31", "2001-2-29", "1999-1-1", "2040-1-1", ",", ";", "(", ")", "((((((a))))))", "(((((((a)))))))",
        "1,2,3,4,5,6,7,8", "1,2,3,4,5,6,7,8,9", "1,2,3,4,5,6,7,8, ", "-", "1a", "a1", " ", "\n", "\t", "A", "\u00e4", "set q is a;",
        "rule q every 1 days from 2000-1-1;"};

    public static void main(String[] args) {
        int runs = args.length > 0 ? Integer.parseInt(args[0]) : 20000;
        int[] kinds = new int[6];
        FeastRules x = new FeastRules();
        for (int seed = 0; seed < runs; seed++) {
            // Some 84 calls a text at the most; an object is promised for 512.
            x = seed % 6 == 0 ? new FeastRules() : x;
            Random random = new Random(seed);
            String text = new Maker(random).fill(new Model());
            if (random.nextInt(4) == 0) {
                text += many(random);
            }
            int changes = random.nextInt(3);
            for (int i = 0; i < changes; i++) {
                text = change(text, random);
            }
            if (text.length() > 1600) {
                continue;
            }
            int[] want = FaultModel.read(text);
            int before = Check.wrong();
            Check.due("book()", Check.book(x, text), want[0] == 0 ? want[1] : -1);
            Check.due("fault(0)", x.fault(0), want[0]);
            Check.due("fault(1)", x.fault(1), want[0] == 0 ? -1 : want[1]);
            kinds[want[0]]++;
            if (Check.wrong() > before && Check.wrong() < 10) {
                System.out.println("  in: " + text);
            }
        }
        for (int kind = 0; kind < 6; kind++) {
            Check.due("texts with fault " + kind + " enough", kinds[kind] > 30, true);
        }
        Check.close("RandomFaultsTest");
    }

    private static String change(String text, Random random) {
        int at = random.nextInt(text.length() + 1);
        int kind = random.nextInt(5);
        if (kind == 0) {
            return text.substring(0, at) + " ".repeat(random.nextInt(3));
        }
        if (kind == 1) {
            int end = Math.min(text.length(), at + 1 + random.nextInt(3));
            return text.substring(0, at) + text.substring(end);
        }
        // At the edge of a word, so that what comes in is read whole more often.
        while (at < text.length() && random.nextInt(8) > 0 && Character.isLetterOrDigit(text.charAt(at))) {
            at++;
        }
        String piece = PIECES[random.nextInt(PIECES.length)];
        String in = kind == 2 ? piece : " " + piece + " ";
        int skip = kind == 4 ? wordEnd(text, at) : at;
        return text.substring(0, at) + in + text.substring(skip);
    }

    /** More statements, longer rows, more brackets than a book may have, or just as many. */
    private static String many(Random random) {
        StringBuilder text = new StringBuilder();
        for (int i = random.nextInt(7); i >= 0; i--) {
            String name = "q" + (char) ('a' + random.nextInt(26)) + (char) ('a' + random.nextInt(26));
            int size = 7 + random.nextInt(3);
            StringBuilder row = new StringBuilder();
            boolean dates = random.nextBoolean();
            for (int k = 1; k <= size; k++) {
                row.append(dates ? "2000-1-" : "").append(k);
                row.append(k < size ? "," : "").append(random.nextInt(20) == 0 ? " " : "");
            }
            String open = "(".repeat(size - 2);
            text.append(dates ? "set " + name + " is " + (random.nextBoolean() ? "day " + row : open + "day 2000-1-1" + open.replace('(', ')'))
                : "rule " + name + " every 1 days from 2000-1-1 " + FaultModel.PARTS.get(random.nextInt(4)) + " " + row);
            text.append(random.nextInt(10) == 0 ? "" : ";");
        }
        return text.toString();
    }

    private static int wordEnd(String text, int at) {
        int end = at;
        while (end < text.length() && !Character.isLetterOrDigit(text.charAt(end))) {
            end++;
        }
        while (end < text.length() && Character.isLetterOrDigit(text.charAt(end))) {
            end++;
        }
        return end;
    }
}
