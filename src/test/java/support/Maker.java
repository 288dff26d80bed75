import java.time.LocalDate;
import java.util.ArrayList;
import java.util.Collections;
import java.util.List;
import java.util.Random;

/** Makes books by a random source with a fixed seed. */
final class Maker {
    private final Random random;
    private final List<Model.Named> names = new ArrayList<>();

    Maker(Random random) {
        this.random = random;
    }

    /** A model with a book, and the text of that book. */
    String fill(Model m) {
        names.clear();
        int rules = 1 + random.nextInt(6);
        int sets = random.nextInt(7);
        StringBuilder text = new StringBuilder();
        while (m.now.rules.size() < rules || m.sets.size() < sets) {
            boolean rule = m.sets.size() >= sets || m.now.rules.size() < rules && random.nextInt(3) > 0;
            String name = name();
            if (rule) {
                Model.Rule r = rule(name);
                text.append(ruleText(r)).append(" ; ");
                names.add(new Model.Named(name, m.now.rules.size()));
                m.now.rules.add(r);
            } else {
                Model.Expr e = sum(2);
                text.append("set ").append(name).append(" is ").append(e.text()).append(" ; ");
                names.add(new Model.Named(name, 6 + m.sets.size()));
                m.sets.add(e);
                m.setNames.add(name);
                m.now.added.add(new java.util.TreeSet<>());
                m.now.left.add(new java.util.TreeSet<>());
            }
        }
        m.forget();
        return blanks(text.toString());
    }

    /** The same pieces with other blanks. */
    String blanks(String text) {
        java.util.regex.Matcher p = java.util.regex.Pattern.compile("[a-z]+|[0-9]+|[^ \n]").matcher(text);
        StringBuilder out = new StringBuilder();
        boolean tightAhead = false;
        while (p.find()) {
            boolean tight = p.group().matches("[a-z]+|[0-9]+");
            int some = random.nextInt(8) == 0 ? random.nextInt(3) : 0;
            for (int i = 0; i < (tight && tightAhead ? Math.max(1, some) : some); i++) {
                out.append(random.nextInt(4) == 0 ? '\n' : ' ');
            }
            out.append(p.group());
            tightAhead = tight;
        }
        return out.toString();
    }

    private String name() {
        while (true) {
            StringBuilder s = new StringBuilder();
            int length = 1 + random.nextInt(random.nextInt(4) == 0 ? 6 : 2);
            for (int i = 0; i < length; i++) {
                s.append((char) ('a' + random.nextInt(26)));
            }
            String name = s.toString();
            if (!FaultModel.OWN.contains(name) && names.stream().noneMatch(n -> n.name().equals(name))) {
                return name;
            }
        }
    }

    LocalDate date() {
        int near = random.nextInt(6);
        int day = random.nextInt(14610);
        if (near < 3) {
            day = random.nextInt(800);
        } else if (near == 3) {
            day = 14609 - random.nextInt(60);
        }
        return Model.dated(day);
    }

    private int number(int most) {
        return 1 + random.nextInt(random.nextInt(3) > 0 ? Math.min(3, most) : most);
    }

    private List<Integer> places(int most, boolean signed) {
        List<Integer> row = new ArrayList<>();
        int size = number(8);
        while (row.size() < size) {
            int p = 1 + random.nextInt(random.nextInt(2) == 0 ? Math.min(9, most) : most);
            int place = signed && random.nextInt(3) == 0 ? -p : p;
            if (!row.contains(place)) {
                row.add(place);
            }
        }
        return row;
    }

    private Model.Rule rule(String name) {
        Model.Rule r = new Model.Rule();
        r.name = name;
        r.step = number(99);
        r.unit = random.nextInt(4);
        r.begin = date();
        if (random.nextInt(3) == 0) {
            r.in = places(12, false);
        }
        if (random.nextInt(3) == 0) {
            r.on = places(31, true);
        }
        if (random.nextInt(2) == 0) {
            int size = number(7);
            while (r.by.size() < size) {
                int place = r.unit < 2 || random.nextInt(2) == 0 ? 0 : number(random.nextInt(3) == 0 ? 53 : 5);
                Model.By b = new Model.By(random.nextBoolean() ? place : -place, random.nextInt(7));
                if (!r.by.contains(b)) {
                    r.by.add(b);
                }
            }
        }
        if (random.nextInt(4) == 0) {
            r.at = places(99, true);
        }
        r.until = random.nextInt(5) == 0 ? date() : null;
        r.count = random.nextInt(5) == 0 ? number(999) : -1;
        return r;
    }

    private String ruleText(Model.Rule r) {
        List<String> parts = new ArrayList<>();
        if (!r.in.isEmpty()) {
            parts.add("in " + row(r.in));
        }
        if (!r.on.isEmpty()) {
            parts.add("on " + row(r.on));
        }
        if (!r.by.isEmpty()) {
            List<String> texts = new ArrayList<>();
            r.by.forEach(b -> texts.add((b.place() == 0 ? "" : b.place() + " ") + Model.WEEKDAYS[b.weekday()]));
            parts.add("by " + String.join(",", texts));
        }
        if (!r.at.isEmpty()) {
            parts.add("at " + row(r.at));
        }
        if (r.until != null) {
            parts.add("until " + Model.dateText(r.until));
        }
        if (r.count >= 0) {
            parts.add("count " + r.count);
        }
        Collections.shuffle(parts, random);
        return "rule " + r.name + " every " + r.step + " " + Model.UNITS[r.unit] + " from " + Model.dateText(r.begin)
            + " " + String.join(" ", parts);
    }

    private static String row(List<Integer> row) {
        List<String> texts = new ArrayList<>();
        row.forEach(p -> texts.add("" + p));
        return String.join(",", texts);
    }

    private Model.Expr sum(int deep) {
        Model.Expr e = both(deep);
        while (random.nextInt(3) == 0) {
            e = new Model.Join("or", e, both(deep));
        }
        return e;
    }

    private Model.Expr both(int deep) {
        Model.Expr e = one(deep);
        while (random.nextInt(3) == 0) {
            e = new Model.Join(random.nextBoolean() ? "and" : "less", e, one(deep));
        }
        return e;
    }

    private Model.Expr one(int deep) {
        Model.Expr e;
        int kind = random.nextInt(6);
        if (deep > 0 && kind == 0) {
            e = new Model.Bracket(sum(deep - 1));
        } else if (kind == 1 || names.isEmpty()) {
            List<LocalDate> dates = new ArrayList<>();
            int size = number(8);
            while (dates.size() < size) {
                LocalDate d = date();
                if (!dates.contains(d)) {
                    dates.add(d);
                }
            }
            e = new Model.Told(dates);
        } else {
            e = names.get(random.nextInt(names.size()));
        }
        while (random.nextInt(3) == 0) {
            int n = number(99);
            if (random.nextInt(3) == 0 && !names.isEmpty()) {
                e = new Model.Off(e, names.get(random.nextInt(names.size())));
            } else {
                e = new Model.Shift(e, random.nextBoolean() ? n : -n);
            }
        }
        return e;
    }
}
