import java.util.ArrayList;
import java.util.HashSet;
import java.util.List;
import java.util.Set;

/** The text of a book once more, by pieces and an exception at the first fault. */
final class FaultModel {
    static final Set<String> OWN = Set.of("rule", "every", "days", "weeks", "months", "years", "from", "in", "on", "by",
        "at", "until", "count", "set", "is", "or", "and", "less", "later", "sooner", "off", "day",
        "mon", "tue", "wed", "thu", "fri", "sat", "sun");
    static final List<String> UNITS = List.of("days", "weeks", "months", "years");
    static final List<String> WEEKDAYS = List.of("mon", "tue", "wed", "thu", "fri", "sat", "sun");
    static final List<String> PARTS = List.of("in", "on", "by", "at", "until", "count");

    static final class Fault extends RuntimeException {
        private static final long serialVersionUID = 1L;
        final int what;
        final int place;

        Fault(int what, int place) {
            super(null, null, false, false);
            this.what = what;
            this.place = place;
        }
    }

    /** A word, a number or one sign; glued tells that it lacks the blank ahead of it. */
    record Piece(String text, int start, boolean glued) { }

    private final List<Piece> pieces = new ArrayList<>();
    private final int length;
    private int at = 0;
    private final Set<String> rules = new HashSet<>();
    private final Set<String> sets = new HashSet<>();

    private FaultModel(String text) {
        length = text.length();
        java.util.regex.Matcher m = java.util.regex.Pattern.compile("[a-z]+|[0-9]+|[^ \n]").matcher(text);
        int end = -1;
        boolean tightAhead = false;
        while (m.find()) {
            boolean tight = m.group().matches("[a-z]+|[0-9]+");
            pieces.add(new Piece(m.group(), m.start(), tight && tightAhead && m.start() == end));
            tightAhead = tight;
            end = m.end();
        }
    }

    /** The fault and its place; or 0 and how many statements. */
    static int[] read(String text) {
        try {
            return new int[] {0, new FaultModel(text).statements()};
        } catch (Fault f) {
            return new int[] {f.what, f.place};
        }
    }

    private String now() {
        return at < pieces.size() && !pieces.get(at).glued() ? pieces.get(at).text() : "";
    }

    private int place() {
        return at < pieces.size() ? pieces.get(at).start() : length;
    }

    private void want(boolean right) {
        if (!right) {
            throw new Fault(1, place());
        }
    }

    private void pass(String wanted) {
        want(now().equals(wanted));
        at++;
    }

    private int statements() {
        int n = 0;
        while (n == 0 || at < pieces.size()) {
            if (now().equals("rule")) {
                rule();
            } else {
                want(now().equals("set"));
                set();
            }
            pass(";");
            n++;
        }
        return n;
    }

    private void rule() {
        if (rules.size() == 6) {
            throw new Fault(5, place());
        }
        at++;
        String name = fresh();
        pass("every");
        number(1, 99);
        int unit = UNITS.indexOf(now());
        want(unit >= 0);
        at++;
        pass("from");
        date();
        Set<String> told = new HashSet<>();
        while (PARTS.contains(now())) {
            String part = now();
            if (!told.add(part)) {
                throw new Fault(4, place());
            }
            at++;
            switch (part) {
                case "until" -> date();
                case "count" -> number(1, 999);
                default -> row(part, unit);
            }
        }
        rules.add(name);
    }

    private void row(String part, int unit) {
        Set<String> told = new HashSet<>();
        while (true) {
            int first = place();
            String value = switch (part) {
                case "in" -> "" + number(1, 12);
                case "on" -> "" + signed(31);
                case "at" -> "" + signed(99);
                case "day" -> "" + date();
                default -> by(unit);
            };
            if (!told.add(value)) {
                throw new Fault(4, first);
            }
            if (!now().equals(",")) {
                return;
            }
            at++;
            if (told.size() == 8) {
                throw new Fault(at < pieces.size() ? 5 : 1, place());
            }
        }
    }

    private String by(int unit) {
        int place = 0;
        if (now().matches("-|[0-9]+")) {
            if (unit < 2) {
                throw new Fault(4, place());
            }
            place = signed(53);
        }
        String weekday = now();
        want(WEEKDAYS.contains(weekday));
        at++;
        return place + weekday;
    }

    private int signed(int most) {
        boolean back = now().equals("-");
        at += back ? 1 : 0;
        int n = number(1, most);
        return back ? -n : n;
    }

    private int number(int least, int most) {
        want(now().matches("[0-9]+"));
        if (now().length() > 4) {
            throw new Fault(1, place() + 4);
        }
        int n = Integer.parseInt(now());
        if (n < least || n > most) {
            throw new Fault(2, place());
        }
        at++;
        return n;
    }

    private int date() {
        int year = number(2000, 2039);
        pass("-");
        int month = number(1, 12);
        pass("-");
        int date = number(1, java.time.YearMonth.of(year, month).lengthOfMonth());
        return year * 10000 + month * 100 + date;
    }

    private void set() {
        if (sets.size() == 6) {
            throw new Fault(5, place());
        }
        at++;
        String name = fresh();
        pass("is");
        sum(0);
        sets.add(name);
    }

    private void sum(int open) {
        while (true) {
            one(open);
            if (!List.of("or", "and", "less").contains(now())) {
                return;
            }
            at++;
        }
    }

    private void one(int open) {
        if (now().equals("(")) {
            if (open == 6) {
                throw new Fault(5, place());
            }
            at++;
            sum(open + 1);
            pass(")");
        } else if (now().equals("day")) {
            at++;
            row("day", 0);
        } else {
            known();
        }
        while (List.of("later", "sooner", "off").contains(now())) {
            boolean off = now().equals("off");
            at++;
            if (off) {
                known();
            } else {
                number(1, 99);
            }
        }
    }

    private String name() {
        want(now().matches("[a-z]+") && !OWN.contains(now()));
        if (now().length() > 6) {
            throw new Fault(1, place() + 6);
        }
        return now();
    }

    private String fresh() {
        String name = name();
        if (rules.contains(name) || sets.contains(name)) {
            throw new Fault(3, place());
        }
        at++;
        return name;
    }

    private void known() {
        String name = name();
        if (!rules.contains(name) && !sets.contains(name)) {
            throw new Fault(3, place());
        }
        at++;
    }
}
