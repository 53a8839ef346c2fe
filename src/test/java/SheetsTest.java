/** Promises 25 to 35: sheet, lose, put, cell, copy, tell, announce, as, trace, fault, many. */
public final class SheetsTest {
    private static final int NULL = -11, CAST = -12, INDEX = -13, SIZE = -14;

    public static void main(String[] args) {
        sheets();
        lanesCut();
        cells();
        copies();
        copyFaults();
        tells();
        announces();
        asKinds();
        traceWraps();
        faultsOfCallsThatNameThem();
        refusalsWipeFaults();
        many();
        Due.end();
    }

    private static void answers(TrickHouse x, String what, long got, long want, int fault) {
        Due.due(what, got, want);
        Due.due("fault() of " + what, x.fault(), fault);
    }

    private static void sheets() {
        TrickHouse x = new TrickHouse();
        answers(x, "sheet(-1, 9, -1)", x.sheet(-1, 9, -1), TrickHouse.UNKNOWN, 0);
        answers(x, "sheet(4, 0, 1)", x.sheet(4, 0, 1), TrickHouse.UNKNOWN, 0);
        answers(x, "sheet(0, 3, -1)", x.sheet(0, 3, -1), TrickHouse.OUTSIDE, 0);
        answers(x, "sheet(0, -1, 1)", x.sheet(0, -1, 1), TrickHouse.OUTSIDE, 0);
        answers(x, "sheet(0, 0, 61)", x.sheet(0, 0, 61), TrickHouse.OUTSIDE, 0);
        answers(x, "sheet(0, 0, -1)", x.sheet(0, 0, -1), SIZE, 4);
        answers(x, "sheet least", x.sheet(0, 0, Integer.MIN_VALUE), SIZE, 4);
        Due.due("it has nothing still", x.lose(0), 0);
        answers(x, "sheet(0, 0, 0)", x.sheet(0, 0, 0), 1, 0);
        answers(x, "a row of none has no cell", x.put(0, 0, 1), INDEX, 3);
        Due.due("a row of none is a row", x.lose(0), 1);
        Due.due("lose again", x.lose(0), 0);
        Due.due("lose(-1)", x.lose(-1), TrickHouse.UNKNOWN);
        Due.due("lose(4)", x.lose(4), TrickHouse.UNKNOWN);
        answers(x, "sheet(3, 2, 60)", x.sheet(3, 2, 60), 1, 0);
        answers(x, "put(3, 59, 7)", x.put(3, 59, 7), 1, 0);
        answers(x, "put(3, 60, 7)", x.put(3, 60, 7), INDEX, 3);
        answers(x, "put(3, -1, 7)", x.put(3, -1, 7), INDEX, 3);
        answers(x, "put(3, 0, 8)", x.put(3, 0, 8), 1, 0);
        answers(x, "a refused sheet", x.sheet(3, 2, -1), SIZE, 4);
        answers(x, "changes nothing", x.cell(3, 59, 2), 7, 0);
        answers(x, "a new row", x.sheet(3, 2, 60), 1, 0);
        answers(x, "is of 0", x.cell(3, 59, 2), 0, 0);
        answers(x, "from its first on", x.cell(3, 0, 2), 0, 0);
        answers(x, "a shorter one", x.sheet(3, 1, 2), 1, 0);
        answers(x, "has no more", x.put(3, 2, 1), INDEX, 3);
        answers(x, "put(0, 0, 1)", x.put(0, 0, 1), NULL, 1);
        answers(x, "put(-1, -1, 1)", x.put(-1, -1, 1), TrickHouse.UNKNOWN, 0);
        answers(x, "put(4, 0, 1)", x.put(4, 0, 1), TrickHouse.UNKNOWN, 0);
    }

    private static void lanesCut() {
        TrickHouse x = new TrickHouse();
        int[] values = {127, 128, 255, 256, -129, 32767, 32768, 65535, 65536, -32769,
                Integer.MAX_VALUE, Integer.MIN_VALUE};
        Due.row(x, 0, 0, values);
        Due.row(x, 1, 1, values);
        Due.row(x, 2, 2, values);
        for (int i = 0; i < values.length; i++) {
            Due.due("byte of " + values[i], x.cell(0, i, 0), (byte) values[i]);
            Due.due("short of " + values[i], x.cell(1, i, 1), (short) values[i]);
            Due.due("int of " + values[i], x.cell(2, i, 2), values[i]);
        }
    }

    private static void cells() {
        TrickHouse x = new TrickHouse();
        Due.row(x, 0, 1, 5, -6);
        answers(x, "cell(0, 1, 1)", x.cell(0, 1, 1), -6, 0);
        answers(x, "cell(4, 9, 9)", x.cell(4, 9, 9), TrickHouse.LOST, 0);
        answers(x, "cell(-1, 0, 1)", x.cell(-1, 0, 1), TrickHouse.LOST, 0);
        answers(x, "cell(1, 9, 3)", x.cell(1, 9, 3), TrickHouse.LOST, 0);
        answers(x, "cell(0, 0, -1)", x.cell(0, 0, -1), TrickHouse.LOST, 0);
        answers(x, "cell(0, 9, 2)", x.cell(0, 9, 2), TrickHouse.LOST, 2);
        answers(x, "cell(1, 9, 2)", x.cell(1, 9, 2), TrickHouse.LOST, 1);
        answers(x, "cell(0, 2, 1)", x.cell(0, 2, 1), TrickHouse.LOST, 3);
        answers(x, "cell(0, -1, 1)", x.cell(0, -1, 1), TrickHouse.LOST, 3);
        Due.due("lose(0)", x.lose(0), 1);
        answers(x, "cell of nothing", x.cell(0, 0, 1), TrickHouse.LOST, 1);
    }

    private static void rowIs(TrickHouse x, int k, int lane, int... due) {
        for (int i = 0; i < due.length; i++) {
            Due.due("cell(" + k + ", " + i + ")", x.cell(k, i, lane), due[i]);
        }
    }

    private static void copies() {
        TrickHouse x = new TrickHouse();
        Due.row(x, 0, 0, 1, 2, 3, 4, 5);
        Due.row(x, 1, 0, 9, 9, 9);
        answers(x, "to another", x.copy(0, 3, 1, 1, 2), 2, 0);
        rowIs(x, 1, 0, 9, 4, 5);
        rowIs(x, 0, 0, 1, 2, 3, 4, 5);
        answers(x, "the same, on", x.copy(0, 0, 0, 1, 4), 4, 0);
        rowIs(x, 0, 0, 1, 1, 2, 3, 4);
        answers(x, "the same, back", x.copy(0, 2, 0, 0, 3), 3, 0);
        rowIs(x, 0, 0, 2, 3, 4, 3, 4);
        answers(x, "none, at the ends", x.copy(0, 5, 1, 3, 0), 0, 0);
        answers(x, "all", x.copy(1, 0, 1, 0, 3), 3, 0);
        rowIs(x, 1, 0, 9, 4, 5);
    }

    private static void copyFaults() {
        TrickHouse x = new TrickHouse();
        Due.row(x, 0, 0, 1, 2, 3, 4, 5);
        Due.row(x, 1, 0, 9, 9, 9);
        Due.row(x, 2, 1, 9);
        answers(x, "from -1", x.copy(-1, -1, 3, -1, -1), TrickHouse.UNKNOWN, 0);
        answers(x, "from 4", x.copy(4, 0, 0, 0, 0), TrickHouse.UNKNOWN, 0);
        answers(x, "to 4", x.copy(3, 0, 4, 0, 0), TrickHouse.UNKNOWN, 0);
        answers(x, "to -1", x.copy(0, 0, -1, 0, 0), TrickHouse.UNKNOWN, 0);
        answers(x, "from nothing", x.copy(3, -1, 0, 0, 0), NULL, 1);
        answers(x, "to nothing", x.copy(2, -1, 3, 0, 0), NULL, 1);
        answers(x, "unlike lanes", x.copy(0, -1, 2, 0, 0), CAST, 2);
        answers(x, "n -1", x.copy(0, 0, 1, 0, -1), INDEX, 3);
        answers(x, "i -1", x.copy(0, -1, 1, 0, 0), INDEX, 3);
        answers(x, "j -1", x.copy(0, 0, 1, -1, 0), INDEX, 3);
        answers(x, "i 6", x.copy(0, 6, 1, 0, 0), INDEX, 3);
        answers(x, "j 4", x.copy(0, 0, 1, 4, 0), INDEX, 3);
        answers(x, "beyond the first", x.copy(0, 3, 1, 0, 3), INDEX, 3);
        answers(x, "beyond the other", x.copy(0, 0, 1, 1, 3), INDEX, 3);
        answers(x, "wrapped", x.copy(0, 1, 1, 1, Integer.MAX_VALUE), INDEX, 3);
        answers(x, "i most", x.copy(0, Integer.MAX_VALUE, 1, 0, 1), INDEX, 3);
        rowIs(x, 0, 0, 1, 2, 3, 4, 5);
        rowIs(x, 1, 0, 9, 9, 9);
        answers(x, "as told", x.copy(1, 0, 0, 2, 3), 3, 0);
        rowIs(x, 0, 0, 1, 2, 9, 9, 9);
    }

    private static void tells() {
        TrickHouse x = Due.of("v00/9;t1500;b1400;p1300");
        Due.due("tell(3)", x.tell(3), TrickHouse.UNKNOWN);
        Due.due("tell(-1)", x.tell(-1), TrickHouse.UNKNOWN);
        Due.due("refused, no trace", x.trace(), 0);
        Due.due("tell(0)", x.tell(0), 5);
        Due.due("1", x.trace(), 1);
        Due.due("tell(1)", x.tell(1), 104);
        Due.due("2, 1", x.trace(), (31 + 2) * 31 + 1);
        TrickHouse y = Due.of("v00/9;t1500;b1400;p1300");
        Due.due("tell(2)", y.tell(2), 106);
        Due.due("3, 2, 1, 1", y.trace(), ((3 * 31 + 2) * 31 + 1) * 31 + 1);
        Due.due("cheer(2, 9)", y.cheer(2, 9), 3);
        Due.due("tell(2) of 9", y.tell(2), 118);
    }

    private static void announces() {
        TrickHouse x = Due.of("v00/9;t1500;b1400;p1300");
        Due.due("announce(3)", x.announce(3), TrickHouse.UNKNOWN);
        Due.due("announce(-1)", x.announce(-1), TrickHouse.UNKNOWN);
        Due.due("refused, no trace", x.trace(), 0);
        Due.due("announce(1)", x.announce(1), 1);
        Due.due("4", x.trace(), 4);
        Due.due("announce(2)", x.announce(2), 80);
        Due.due("4, 5", x.trace(), 4 * 31 + 5);
        Due.due("announce(0)", x.announce(0), 0);
        Due.due("4, 5, 4", x.trace(), (4 * 31 + 5) * 31 + 4);
    }

    private static void asKinds() {
        TrickHouse x = Due.of("v00/9;t1500;b1400;p1300");
        for (int a = 0; a < 3; a++) {
            for (int kind = 0; kind < 3; kind++) {
                boolean is = kind <= a;
                answers(x, "as(" + a + ", " + kind + ")", x.as(a, kind), is ? 1 : CAST, is ? 0 : 2);
            }
        }
        Due.due("a fault ahead", x.as(0, 2), CAST);
        answers(x, "as(3, 9)", x.as(3, 9), TrickHouse.UNKNOWN, 0);
        answers(x, "as(-1, 0)", x.as(-1, 0), TrickHouse.UNKNOWN, 0);
        Due.due("a fault ahead", x.as(0, 2), CAST);
        answers(x, "as(0, 3)", x.as(0, 3), TrickHouse.OUTSIDE, 0);
        answers(x, "as(0, -1)", x.as(0, -1), TrickHouse.OUTSIDE, 0);
    }

    private static void traceWraps() {
        TrickHouse x = Due.of("v00/9;t1500;b1400;p1300");
        int due = 0;
        for (int step = 0; step < 20; step++) {
            Due.due("tell(2)", x.tell(2), 106);
            for (int body : new int[] {3, 2, 1, 1}) {
                due = 31 * due + body;
            }
            Due.due("trace() behind " + step, x.trace(), due);
        }
    }

    private static void faultsOfCallsThatNameThem() {
        TrickHouse x = Due.of(Due.SIX);
        Due.due("cast", x.as(0, 2), CAST);
        x.ofArticle(9, 9);
        x.space(9);
        x.cheer(9, 9);
        x.miss(0, 3);
        x.widen(0, 6);
        x.shift(21);
        x.there();
        x.company(-1);
        x.send(3);
        x.call(3);
        x.laughter();
        x.heard(0);
        x.packs(0, 0);
        x.fetch(0);
        x.lure(0);
        x.reading(0, 0);
        x.back(1);
        x.gaieties(0);
        x.kinds(0);
        x.wheres(0);
        x.odds(0, 0);
        x.lose(3);
        x.tell(0);
        x.announce(0);
        x.trace();
        x.fault();
        x.many(9);
        Due.due("fault() behind calls that name none", x.fault(), 2);
        Due.due("put", x.put(0, 0, 1), 1);
        Due.due("fault() behind one that came to none", x.fault(), 0);
        Due.due("null", x.put(3, 0, 1), NULL);
        Due.due("a text that is wrong", x.city(0, 0, 0, 1), -100);
        Due.due("is no fault", x.fault(), 0);
    }

    private static void refusalsWipeFaults() {
        TrickHouse x = Due.of("v00/9;t1500");
        fail(x);
        answers(x, "city(4, 0, 0, 0)", x.city(4, 0, 0, 0), TrickHouse.UNKNOWN, 0);
        fail(x);
        answers(x, "city(0, 3, 0, 0)", x.city(0, 3, 0, 0), TrickHouse.OUTSIDE, 0);
        fail(x);
        answers(x, "year(4, 0, 0, 0, 0)", x.year(4, 0, 0, 0, 0), TrickHouse.UNKNOWN, 0);
        fail(x);
        answers(x, "year(0, 0, 0, 0, 6)", x.year(0, 0, 0, 0, 6), TrickHouse.OUTSIDE, 0);
        fail(x);
        answers(x, "year of no pairs", x.year(0, 0, 0, 1, 0), TrickHouse.UNKNOWN, 0);
        fail(x);
        answers(x, "sheet(4, 0, 0)", x.sheet(4, 0, 0), TrickHouse.UNKNOWN, 0);
        fail(x);
        answers(x, "sheet(0, 0, 61)", x.sheet(0, 0, 61), TrickHouse.OUTSIDE, 0);
        fail(x);
        answers(x, "put(4, 0, 0)", x.put(4, 0, 0), TrickHouse.UNKNOWN, 0);
        fail(x);
        answers(x, "cell(4, 0, 0)", x.cell(4, 0, 0), TrickHouse.LOST, 0);
        fail(x);
        answers(x, "cell(0, 0, 3)", x.cell(0, 0, 3), TrickHouse.LOST, 0);
        fail(x);
        answers(x, "copy(0, 0, 4, 0, 0)", x.copy(0, 0, 4, 0, 0), TrickHouse.UNKNOWN, 0);
        fail(x);
        answers(x, "as(1, 0)", x.as(1, 0), TrickHouse.UNKNOWN, 0);
        TrickHouse none = new TrickHouse();
        Due.row(none, 0, 0, 0, 0);
        fail(none);
        answers(none, "year without a city", none.year(0, 0, 0, 1, 0), TrickHouse.STATE, 0);
    }

    private static void fail(TrickHouse x) {
        answers(x, "sheet(3, 0, -1)", x.sheet(3, 0, -1), SIZE, 4);
    }

    private static void many() {
        TrickHouse x = Due.of("v52/642;t2503;t1000");
        Due.send(x, 1);
        Due.due("reading", x.reading(0, 0), 0);
        Due.due("reading", x.reading(0, 0), 1);
        Due.due("reading", x.reading(0, 0), 2);
        int[] due = {2, 3, 1, 21, 3};
        for (int what = 0; what < due.length; what++) {
            Due.due("many(" + what + ")", x.many(what), due[what]);
        }
        Due.due("many(-1)", x.many(-1), TrickHouse.OUTSIDE);
        Due.due("many(5)", x.many(5), TrickHouse.OUTSIDE);
        Due.due("many most", x.many(Integer.MAX_VALUE), TrickHouse.OUTSIDE);
    }
}
