/** Texts of books with the answer that is due. */
final class Texts {
    /** A rule by days, one by months, and a set, without the sign that ends them. */
    static final String R = "rule a every 1 days from 2000-1-1";
    static final String M = "rule a every 1 months from 2000-1-1";
    static final String S = R + ";set b is ";

    private Texts() {
    }

    /** A text with ^ ahead of the byte at which it has the fault. */
    static void fault(int fault, String marked) {
        int place = marked.indexOf('^');
        String text = marked.substring(0, place) + marked.substring(place + 1);
        FeastRules x = new FeastRules();
        Check.due("book() of " + marked, Check.book(x, text), -1);
        Check.due("fault(0) of " + marked, x.fault(0), fault);
        Check.due("fault(1) of " + marked, x.fault(1), place);
        Check.due("fault(2) of " + marked, x.fault(2), -1);
        Check.due("fault(-1) of " + marked, x.fault(-1), -1);
        Check.due("status(1) of " + marked, x.status(1), 1);
        Check.due("has(0) of " + marked, x.has(0) + x.has(1), 0);
    }

    static void right(int statements, String text) {
        FeastRules x = new FeastRules();
        Check.due("book() of " + text, Check.book(x, text), statements);
        Check.due("fault(0) of " + text, x.fault(0), 0);
        Check.due("fault(1) of " + text, x.fault(1), -1);
        Check.due("status(1) of " + text, x.status(1), 0);
    }

    /** So many rules: a, b, c .. */
    static String rules(int many) {
        StringBuilder text = new StringBuilder();
        for (int i = 0; i < many; i++) {
            text.append("rule ").append((char) ('a' + i)).append(" every 1 days from 2000-1-1;");
        }
        return text.toString();
    }

    /** So many sets: sa, sb, sc .. */
    static String sets(int many) {
        StringBuilder text = new StringBuilder();
        for (int i = 0; i < many; i++) {
            text.append("set s").append((char) ('a' + i)).append(" is day 2000-1-1;");
        }
        return text.toString();
    }
}
