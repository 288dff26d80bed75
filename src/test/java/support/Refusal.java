import java.util.ArrayList;
import java.util.List;
import java.util.function.Predicate;
import java.util.function.Supplier;
import java.util.function.ToIntFunction;

/** A refused call: its answer, its count, and that all else stays, told by a twin that was not asked. */
final class Refusal {
    static final int TAPE = 0;
    static final int TEXT = 1;
    static final int MARK = 2;
    static final int RULE = 3;
    static final int UNDO = 4;
    static final int SEED = 5;

    private Refusal() {
    }

    /** An object with all that can stay: marks, rows seen, acts, a seed, bytes on the tape, a fault told. */
    static FeastRules used() {
        FeastRules x = Check.made("rule a every 2 days from 2000-1-1 until 2000-3-31;rule b every 3 weeks from 2000-1-5 by mon,fri count 9;"
            + "set s is a;set t is s later 1 or b;");
        x.seed(77);
        x.add(0, 1);
        x.leave(1, 3);
        Check.see(x, 1, 30, 1, 13, 0);
        x.every(1, 4);
        Check.book(x, "rule a every 0");
        x.feed(1, 2, 3, 4, 5);
        x.end(17);
        return x;
    }

    /** What an object has, as its calls tell it. */
    static List<Integer> state(FeastRules x) {
        List<Integer> told = new ArrayList<>();
        for (int i = 0; i < 6; i++) {
            told.add(x.has(i));
        }
        for (int rule = 0; rule < x.has(0); rule++) {
            for (int what = 0; what < 9; what++) {
                told.add(x.rule(rule, what));
            }
            told.add(x.letter(rule, 0));
            told.add(x.sum(rule));
        }
        for (int set = 6; set < 6 + x.has(1); set++) {
            told.add(x.letter(set, 0));
            told.add(x.sum(set));
        }
        told.add(x.fits(-1));
        told.add(x.fits(0));
        told.add(x.tells(0));
        return told;
    }

    /** A call that answers a number: NONE is due. */
    static void none(String call, int kind, Supplier<FeastRules> made, ToIntFunction<FeastRules> asked) {
        FeastRules x = made.get();
        Check.due(call, asked.applyAsInt(x), -1);
        stays(call, kind, x, made.get());
    }

    /** A call that answers true or false: false is due. */
    static void no(String call, int kind, Supplier<FeastRules> made, Predicate<FeastRules> asked) {
        FeastRules x = made.get();
        Check.due(call, asked.test(x), false);
        stays(call, kind, x, made.get());
    }

    static void none(String call, int kind, ToIntFunction<FeastRules> asked) {
        none(call, kind, Refusal::used, asked);
    }

    static void no(String call, int kind, Predicate<FeastRules> asked) {
        no(call, kind, Refusal::used, asked);
    }

    private static void stays(String call, int kind, FeastRules x, FeastRules twin) {
        for (int i = 0; i < 6; i++) {
            Check.due("status(" + i + ") behind " + call, x.status(i), twin.status(i) + (i == kind ? 1 : 0));
        }
        if (!call.startsWith("book")) {
            Check.due("fault(0) behind " + call, x.fault(0), twin.fault(0));
            Check.due("fault(1) behind " + call, x.fault(1), twin.fault(1));
        }
        same(call, x, twin);
        // book() and see() take the tape, refused or not; the other calls leave it.
        if (kind == TEXT) {
            twin.end(0);
        }
        Check.due("the tape behind " + call, x.feed(0, 0, 0, 0, 0), twin.feed(0, 0, 0, 0, 0));
        Check.due("chance(1) behind " + call, x.chance(1), twin.chance(1));
        same("chance(1) behind " + call, x, twin);
        for (int i = 0; i < 3; i++) {
            Check.due("undo() behind " + call, x.undo(), twin.undo());
        }
        same("undo() behind " + call, x, twin);
    }

    private static void same(String call, FeastRules x, FeastRules twin) {
        Check.due("all stays behind " + call, state(x).equals(state(twin)), true);
    }
}
