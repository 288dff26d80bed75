/** Promises 1, 2, 3, and what the tape is after book() and see(). */
public final class TapeTest {
    public static void main(String[] args) {
        newObject();
        feeding();
        ending();
        goes();
        byteOrder();
        Check.close("TapeTest");
    }

    private static void newObject() {
        FeastRules x = new FeastRules();
        for (int i = 0; i < 6; i++) {
            Check.due("has(" + i + ")", x.has(i), 0);
            Check.due("status(" + i + ")", x.status(i), 0);
        }
        Check.due("fault(0)", x.fault(0), 0);
        Check.due("fault(1)", x.fault(1), -1);
        Check.due("end(0)", x.end(0), true);
        for (int what = -1; what <= 12; what++) {
            Check.due("letter", x.letter(what, 0), -1);
            Check.due("on", x.on(what, 0), -1);
            Check.due("rule", x.rule(what, 0), -1);
            Check.due("sum", x.sum(what), -1);
        }
        Check.due("undo()", x.undo(), false);
    }

    private static void feeding() {
        FeastRules x = new FeastRules();
        for (int i = 1; i <= 80; i++) {
            Check.due("feed " + i, x.feed(0, 0, 0, 0, 0), i * 20);
        }
        Check.due("feed 81", x.feed(0, 0, 0, 0, 0), -1);
        Check.due("status(0)", x.status(0), 1);
        Check.due("end(1581)", x.end(1581), true);
        Check.due("feed at 1581", x.feed(0, 0, 0, 0, 0), -1);
        Check.due("end(1580)", x.end(1580), true);
        Check.due("feed at 1580", x.feed(0, 0, 0, 0, 0), 1600);
        Check.due("status(0)", x.status(0), 2);
    }

    private static void ending() {
        FeastRules x = new FeastRules();
        x.feed(1, 2, 3, 4, 5);
        Check.due("end(-1)", x.end(-1), false);
        Check.due("end(21)", x.end(21), false);
        Check.due("end(MIN)", x.end(Integer.MIN_VALUE), false);
        Check.due("end(MAX)", x.end(Integer.MAX_VALUE), false);
        Check.due("status(0)", x.status(0), 4);
        Check.due("end(20)", x.end(20), true);
        Check.due("end(7)", x.end(7), true);
        Check.due("end(8)", x.end(8), false);
        Check.due("feed behind 7", x.feed(0, 0, 0, 0, 0), 27);
        Check.due("end(0)", x.end(0), true);
        Check.due("feed behind 0", x.feed(0, 0, 0, 0, 0), 20);
    }

    private static void goes() {
        FeastRules x = Check.made("rule a every 1 days from 2000-1-1;");
        Check.due("feed behind book()", x.feed(0, 0, 0, 0, 0), 20);
        Check.due("book() of that", x.book(), -1);
        Check.due("feed behind a refused book()", x.feed(0, 0, 0, 0, 0), 20);
        Check.due("see(0) of that", x.see(0), -1);
        Check.due("feed behind a refused see()", x.feed(0, 0, 0, 0, 0), 20);
        Check.due("end(3)", x.end(3), true);
        Check.due("see(0)", x.see(0), 1);
        Check.due("feed behind see()", x.feed(0, 0, 0, 0, 0), 20);
        Check.due("see(1), no such rule", x.see(1), -1);
        Check.due("feed behind that", x.feed(0, 0, 0, 0, 0), 20);
    }

    private static void byteOrder() {
        FeastRules x = new FeastRules();
        // "set a is" / " day" and so on, told by hand: the highest byte of each number comes first.
        x.feed(0x73657420, 0x61206973, 0x20646179, 0x20323030, 0x302d312d);
        Check.due("end(20)", x.end(20), true);
        x.feed(0x333b2020, 0xff202020, 0, 0, 0);
        Check.due("end(22)", x.end(22), true);
        Check.due("book()", x.book(), 1);
        Check.days(x, 6, 2);
        x.feed(0x73657420, 0x61206973, 0x20646179, 0x20323030, 0x302d312d);
        x.feed(0x333b20ff, 0x20202020, 0, 0, 0);
        x.end(25);
        Check.due("book()", x.book(), -1);
        Check.due("fault(0)", x.fault(0), 1);
        Check.due("fault(1)", x.fault(1), 23);
    }
}
