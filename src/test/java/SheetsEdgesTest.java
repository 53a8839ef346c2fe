/** Promises 25 to 35, sentence by sentence at its edges; "Terms", part 5. */
public final class SheetsEdgesTest {
    private static final int NULL = -11, CAST = -12, INDEX = -13, SIZE = -14;
    private static final int LEAST_INT = Integer.MIN_VALUE, MOST_INT = Integer.MAX_VALUE;
    private static final int[] NO_SHEETS = {LEAST_INT, -1, 4, MOST_INT};
    private static final int[] NO_LANES = {LEAST_INT, -1, 3, MOST_INT};
    private static final long LOST = TrickHouse.LOST;

    private static final String THREE = "v00/9;t1500;b1400;p1300";

    public static void main(String[] args) {
        sizes();
        sheetRefusals();
        newRows();
        lose();
        put();
        lanes();
        cell();
        copies();
        copiesOverEachOther();
        copyRefusals();
        copyIndexes();
        tell();
        announce();
        as();
        trace();
        fault();
        faultOfCallsThatNameOne();
        many();
        manyWithoutCity();
        Due.end();
    }

    // ---- rows

    private static void sizes() {
        Due.says("or a row of 0 .. 60 numbers (0 at first) of a LANE: 0 bytes, 1 shorts, 2 ints");
        for (int k = 0; k < 4; k++) {
            for (int lane = 0; lane <= 2; lane++) {
                TrickHouse x = new TrickHouse();
                Due.answers(x, "of 0", x.sheet(k, lane, 0), 1, 0);
                Due.rowIs(x, k, lane);
                Due.answers(x, "of 1", x.sheet(k, lane, 1), 1, 0);
                Due.rowIs(x, k, lane, 0);
                Due.answers(x, "of 60", x.sheet(k, lane, 60), 1, 0);
                Due.rowIs(x, k, lane, new int[60]);
                Due.answers(x, "of 61", x.sheet(k, lane, 61), TrickHouse.OUTSIDE, 0);
                Due.rowIs(x, k, lane, new int[60]);
            }
        }
    }

    private static void sheetRefusals() {
        Due.says("A SHEET gets a new row: 1. UNKNOWN; OUTSIDE: lane, n above 60; SIZE.");
        TrickHouse x = new TrickHouse();
        Due.row(x, 0, 1, 7);
        for (int k : NO_SHEETS) {
            Due.answers(x, "sheet(" + k + ", 3, -1)", x.sheet(k, 3, -1), TrickHouse.UNKNOWN, 0);
            Due.answers(x, "sheet(" + k + ", 0, 61)", x.sheet(k, 0, 61), TrickHouse.UNKNOWN, 0);
            Due.answers(x, "sheet(" + k + ", 0, 1)", x.sheet(k, 0, 1), TrickHouse.UNKNOWN, 0);
        }
        for (int lane : NO_LANES) {
            Due.answers(x, "sheet(0, " + lane + ", -1)", x.sheet(0, lane, -1), TrickHouse.OUTSIDE, 0);
            Due.answers(x, "sheet(0, " + lane + ", 61)", x.sheet(0, lane, 61), TrickHouse.OUTSIDE, 0);
            Due.answers(x, "sheet(0, " + lane + ", 1)", x.sheet(0, lane, 1), TrickHouse.OUTSIDE, 0);
        }
        Due.answers(x, "sheet(0, 0, 61)", x.sheet(0, 0, 61), TrickHouse.OUTSIDE, 0);
        Due.answers(x, "sheet(0, 0, most)", x.sheet(0, 0, MOST_INT), TrickHouse.OUTSIDE, 0);
        Due.answers(x, "sheet(0, 0, -1)", x.sheet(0, 0, -1), SIZE, 4);
        Due.answers(x, "sheet(0, 2, least)", x.sheet(0, 2, LEAST_INT), SIZE, 4);
        Due.rowIs(x, 0, 1, 7);
        Due.answers(x, "sheet(1, 0, -1)", x.sheet(1, 0, -1), SIZE, 4);
        Due.due("it has nothing still", x.lose(1), 0);
    }

    private static void newRows() {
        Due.says("numbers (0 at first)");
        TrickHouse x = new TrickHouse();
        Due.row(x, 0, 2, 1, 2, 3);
        Due.row(x, 1, 2, 4, 5, 6);
        Due.due("of the same size", x.sheet(0, 2, 3), 1);
        Due.rowIs(x, 0, 2, 0, 0, 0);
        Due.row(x, 0, 2, 1, 2, 3);
        Due.due("a shorter one", x.sheet(0, 1, 1), 1);
        Due.rowIs(x, 0, 1, 0);
        Due.due("a longer one again", x.sheet(0, 0, 4), 1);
        Due.rowIs(x, 0, 0, 0, 0, 0, 0);
        Due.rowIs(x, 1, 2, 4, 5, 6);
        Due.due("lose", x.lose(1), 1);
        Due.due("and a new one", x.sheet(1, 2, 3), 1);
        Due.rowIs(x, 1, 2, 0, 0, 0);
    }

    private static void lose() {
        Due.says("A SHEET has nothing: 1; 0: it had nothing. UNKNOWN.");
        TrickHouse x = new TrickHouse();
        for (int k = 0; k < 4; k++) {
            Due.due("lose(" + k + ") at first", x.lose(k), 0);
            Due.due("sheet(" + k + ", 0, 0)", x.sheet(k, 0, 0), 1);
        }
        for (int k = 0; k < 4; k++) {
            Due.due("lose(" + k + ") of a row of none", x.lose(k), 1);
            Due.due("lose(" + k + ") again", x.lose(k), 0);
            Due.answers(x, "put(" + k + ", 0, 0)", x.put(k, 0, 0), NULL, 1);
        }
        for (int k : NO_SHEETS) {
            Due.due("lose(" + k + ")", x.lose(k), TrickHouse.UNKNOWN);
        }
    }

    private static void put() {
        Due.says("Cell i of a SHEET becomes v: 1. UNKNOWN; NULL; INDEX.");
        TrickHouse x = new TrickHouse();
        Due.due("sheet(0, 2, 60)", x.sheet(0, 2, 60), 1);
        Due.due("sheet(1, 0, 0)", x.sheet(1, 0, 0), 1);
        for (int k : NO_SHEETS) {
            Due.answers(x, "put(" + k + ", -1, 0)", x.put(k, -1, 0), TrickHouse.UNKNOWN, 0);
        }
        for (int i : new int[] {LEAST_INT, -1, 0, 60, MOST_INT}) {
            Due.answers(x, "nothing: put(2, " + i + ", 1)", x.put(2, i, 1), NULL, 1);
            Due.answers(x, "of none: put(1, " + i + ", 1)", x.put(1, i, 1), INDEX, 3);
        }
        for (int i : new int[] {LEAST_INT, -1, 60, MOST_INT}) {
            Due.answers(x, "of 60: put(0, " + i + ", 1)", x.put(0, i, 1), INDEX, 3);
        }
        Due.answers(x, "put(0, 0, 5)", x.put(0, 0, 5), 1, 0);
        Due.answers(x, "put(0, 59, 6)", x.put(0, 59, 6), 1, 0);
        Due.answers(x, "put(0, 59, 7)", x.put(0, 59, 7), 1, 0);
        int[] due = new int[60];
        due[0] = 5;
        due[59] = 7;
        Due.rowIs(x, 0, 2, due);
    }

    private static void cut(int lane, int v, int due) {
        TrickHouse x = new TrickHouse();
        Due.due("sheet", x.sheet(0, lane, 2), 1);
        Due.answers(x, "put of " + v, x.put(0, 1, v), 1, 0);
        Due.rowIs(x, 0, lane, 0, due);
    }

    private static void lanes() {
        Due.says("what comes to a cell of it is cut to its LANE");
        int[][] bytes = {{127, 127}, {128, -128}, {255, -1}, {256, 0}, {-128, -128}, {-129, 127}, {-256, 0},
            {65535, -1}, {MOST_INT, -1}, {LEAST_INT, 0}};
        int[][] shorts = {{127, 127}, {128, 128}, {-129, -129}, {32767, 32767}, {32768, -32768}, {65535, -1},
            {65536, 0}, {-32768, -32768}, {-32769, 32767}, {MOST_INT, -1}, {LEAST_INT, 0}};
        int[] ints = {32768, 65536, -32769, MOST_INT, LEAST_INT, -1, 0};
        for (int[] one : bytes) {
            cut(0, one[0], one[1]);
        }
        for (int[] one : shorts) {
            cut(1, one[0], one[1]);
        }
        for (int one : ints) {
            cut(2, one, one);
        }
    }

    private static void cell() {
        Due.says("Cell i of what a SHEET has, taken as a row of a LANE. LOST: UNKNOWN, OUTSIDE: lane; FAULTS CAST (nothing is no CAST), NULL, INDEX.");
        TrickHouse x = new TrickHouse();
        Due.row(x, 0, 1, 5, -6);
        Due.due("sheet(1, 0, 0)", x.sheet(1, 0, 0), 1);
        for (int k : NO_SHEETS) {
            Due.answers(x, "cell(" + k + ", 0, 3)", x.cell(k, 0, 3), LOST, 0);
            Due.answers(x, "cell(" + k + ", 0, 0)", x.cell(k, 0, 0), LOST, 0);
        }
        for (int lane : NO_LANES) {
            Due.answers(x, "cell(0, 0, " + lane + ")", x.cell(0, 0, lane), LOST, 0);
            Due.answers(x, "cell(2, -1, " + lane + ")", x.cell(2, -1, lane), LOST, 0);
        }
        for (int i : new int[] {LEAST_INT, -1, 0, 2, MOST_INT}) {
            Due.answers(x, "as bytes", x.cell(0, i, 0), LOST, 2);
            Due.answers(x, "as ints", x.cell(0, i, 2), LOST, 2);
            Due.answers(x, "of none, as ints", x.cell(1, i, 2), LOST, 2);
            Due.answers(x, "of none", x.cell(1, i, 0), LOST, 3);
            for (int lane = 0; lane <= 2; lane++) {
                Due.answers(x, "of nothing", x.cell(2, i, lane), LOST, 1);
            }
        }
        for (int i : new int[] {LEAST_INT, -1, 2, MOST_INT}) {
            Due.answers(x, "cell(0, " + i + ", 1)", x.cell(0, i, 1), LOST, 3);
        }
        Due.answers(x, "cell(0, 0, 1)", x.cell(0, 0, 1), 5, 0);
        Due.answers(x, "cell(0, 1, 1)", x.cell(0, 1, 1), -6, 0);
        Due.row(x, 3, 2, LEAST_INT);
        Due.answers(x, "the least int is no LOST", x.cell(3, 0, 2), LEAST_INT, 0);
    }

    // ---- copies

    private static void copies() {
        Due.says("n cells of a SHEET from i on go to another one (perhaps the same) from j on, as they were: n.");
        for (int lane = 0; lane <= 2; lane++) {
            TrickHouse x = new TrickHouse();
            Due.row(x, 0, lane, 1, -2, 3);
            Due.row(x, 1, lane, 7, 7, 7, 7);
            Due.answers(x, "one from the last on to the last", x.copy(0, 2, 1, 3, 1), 1, 0);
            Due.rowIs(x, 1, lane, 7, 7, 7, 3);
            Due.answers(x, "all to the first", x.copy(0, 0, 1, 0, 3), 3, 0);
            Due.rowIs(x, 1, lane, 1, -2, 3, 3);
            Due.answers(x, "all to the last", x.copy(0, 0, 1, 1, 3), 3, 0);
            Due.rowIs(x, 1, lane, 1, 1, -2, 3);
            Due.answers(x, "none", x.copy(0, 0, 1, 0, 0), 0, 0);
            Due.rowIs(x, 0, lane, 1, -2, 3);
            Due.rowIs(x, 1, lane, 1, 1, -2, 3);
        }
        TrickHouse y = new TrickHouse();
        Due.due("sheet(0, 2, 60)", y.sheet(0, 2, 60), 1);
        Due.due("sheet(3, 2, 60)", y.sheet(3, 2, 60), 1);
        int[] due = new int[60];
        for (int i = 0; i < 60; i++) {
            due[i] = 60 - i;
            Due.due("put", y.put(3, i, due[i]), 1);
        }
        Due.answers(y, "sixty", y.copy(3, 0, 0, 0, 60), 60, 0);
        Due.rowIs(y, 0, 2, due);
        Due.answers(y, "61", y.copy(3, 0, 0, 0, 61), INDEX, 3);
    }

    private static void overlapping(int i, int j, int n, int... due) {
        for (int lane = 0; lane <= 2; lane++) {
            TrickHouse x = new TrickHouse();
            Due.row(x, 2, lane, 1, 2, 3, 4, 5);
            Due.answers(x, "copy of " + n + " from " + i + " to " + j, x.copy(2, i, 2, j, n), n, 0);
            Due.rowIs(x, 2, lane, due);
        }
    }

    private static void copiesOverEachOther() {
        Due.says("(perhaps the same) from j on, as they were");
        overlapping(0, 1, 4, 1, 1, 2, 3, 4);
        overlapping(1, 0, 4, 2, 3, 4, 5, 5);
        overlapping(0, 2, 3, 1, 2, 1, 2, 3);
        overlapping(2, 0, 3, 3, 4, 5, 4, 5);
        overlapping(0, 0, 5, 1, 2, 3, 4, 5);
        overlapping(0, 4, 1, 1, 2, 3, 4, 1);
        overlapping(4, 0, 1, 5, 2, 3, 4, 5);
        overlapping(0, 5, 0, 1, 2, 3, 4, 5);
    }

    private static void copyRefusals() {
        Due.says("UNKNOWN; FAULTS NULL (the first, the other), CAST (unlike LANES), INDEX: i, j, n below 0 or beyond.");
        TrickHouse x = new TrickHouse();
        Due.row(x, 0, 0, 1, 2);
        Due.row(x, 1, 1, 3, 4);
        Due.due("sheet(2, 2, 0)", x.sheet(2, 2, 0), 1);
        for (int k : NO_SHEETS) {
            Due.answers(x, "from " + k, x.copy(k, -1, 0, -1, -1), TrickHouse.UNKNOWN, 0);
            Due.answers(x, "to " + k, x.copy(0, -1, k, -1, -1), TrickHouse.UNKNOWN, 0);
            Due.answers(x, "from " + k + " to nothing", x.copy(k, 0, 3, 0, 0), TrickHouse.UNKNOWN, 0);
            Due.answers(x, "from nothing to " + k, x.copy(3, 0, k, 0, 0), TrickHouse.UNKNOWN, 0);
            Due.answers(x, "from " + k + " to " + k, x.copy(k, 0, k, 0, 0), TrickHouse.UNKNOWN, 0);
        }
        Due.answers(x, "from nothing", x.copy(3, -1, 0, -1, -1), NULL, 1);
        Due.answers(x, "to nothing", x.copy(0, -1, 3, -1, -1), NULL, 1);
        Due.answers(x, "from nothing to nothing", x.copy(3, 0, 3, 0, 0), NULL, 1);
        Due.answers(x, "bytes to shorts", x.copy(0, -1, 1, -1, -1), CAST, 2);
        Due.answers(x, "shorts to bytes", x.copy(1, 0, 0, 0, 1), CAST, 2);
        Due.answers(x, "none of bytes to ints", x.copy(0, 0, 2, 0, 0), CAST, 2);
        Due.answers(x, "none of ints to bytes", x.copy(2, 0, 0, 0, 0), CAST, 2);
        Due.rowIs(x, 0, 0, 1, 2);
        Due.rowIs(x, 1, 1, 3, 4);
    }

    private static void copyIndexes() {
        Due.says("INDEX: i, j, n below 0 or beyond");
        TrickHouse x = new TrickHouse();
        Due.row(x, 0, 0, 1, 2, 3);
        Due.row(x, 1, 0, 8, 9);
        Due.due("sheet(2, 0, 0)", x.sheet(2, 0, 0), 1);
        for (int bad : new int[] {LEAST_INT, -1, 4, MOST_INT}) {
            Due.answers(x, "i " + bad, x.copy(0, bad, 1, 0, 1), INDEX, 3);
            Due.answers(x, "n " + bad, x.copy(0, 0, 1, 0, bad), INDEX, 3);
        }
        for (int bad : new int[] {LEAST_INT, -1, 3, MOST_INT}) {
            Due.answers(x, "j " + bad, x.copy(0, 0, 1, bad, 1), INDEX, 3);
        }
        Due.answers(x, "one from 3 on", x.copy(0, 3, 1, 0, 1), INDEX, 3);
        Due.answers(x, "two from 2 on", x.copy(0, 2, 1, 0, 2), INDEX, 3);
        Due.answers(x, "one to 2", x.copy(0, 0, 1, 2, 1), INDEX, 3);
        Due.answers(x, "two to 1", x.copy(0, 0, 1, 1, 2), INDEX, 3);
        Due.answers(x, "three to 0", x.copy(0, 0, 1, 0, 3), INDEX, 3);
        Due.answers(x, "one from 1 on, the most", x.copy(0, 1, 1, 1, MOST_INT), INDEX, 3);
        Due.answers(x, "all the most", x.copy(0, MOST_INT, 1, MOST_INT, MOST_INT), INDEX, 3);
        Due.answers(x, "all the least", x.copy(0, LEAST_INT, 1, LEAST_INT, LEAST_INT), INDEX, 3);
        Due.answers(x, "one of none", x.copy(2, 0, 1, 0, 1), INDEX, 3);
        Due.answers(x, "one to none", x.copy(0, 0, 2, 0, 1), INDEX, 3);
        Due.answers(x, "within the same, beyond", x.copy(0, 0, 0, 1, 3), INDEX, 3);
        Due.rowIs(x, 0, 0, 1, 2, 3);
        Due.rowIs(x, 1, 0, 8, 9);
        Due.says("(of cells from i on also where i is not 0 .. how many there are, if none of them is taken, too)");
        Due.answers(x, "none, from 3 on to 2", x.copy(0, 3, 1, 2, 0), 0, 0);
        Due.answers(x, "none, from 4 on", x.copy(0, 4, 1, 0, 0), INDEX, 3);
        Due.answers(x, "none, from -1 on", x.copy(0, -1, 1, 0, 0), INDEX, 3);
        Due.answers(x, "none, to 3", x.copy(0, 0, 1, 3, 0), INDEX, 3);
        Due.answers(x, "none, to -1", x.copy(0, 0, 1, -1, 0), INDEX, 3);
        Due.answers(x, "none of none", x.copy(2, 0, 2, 0, 0), 0, 0);
        Due.answers(x, "none of none, from 1 on", x.copy(2, 1, 2, 0, 0), INDEX, 3);
    }

    // ---- parts

    private static void tell() {
        Due.says("THING (1): GAIETY. BEAST (2): what THING's gives, and 100. PERSON (3): what BEAST's gives, and what THING's gives (BEAST's left out).");
        for (int gaiety : new int[] {0, 9}) {
            int[] due = {gaiety, gaiety + 100, 2 * gaiety + 100};
            int[] traces = {1, 2 * 31 + 1, ((3 * 31 + 2) * 31 + 1) * 31 + 1};
            for (int a = 0; a < 3; a++) {
                TrickHouse x = Due.of(THREE);
                x.cheer(a, gaiety);
                Due.due("tell(" + a + ") of " + gaiety, x.tell(a), due[a]);
                Due.due("trace() behind it", x.trace(), traces[a]);
            }
        }
        Due.says("TELLING of an ARTICLE. UNKNOWN.");
        TrickHouse x = Due.of(THREE);
        for (int a : new int[] {LEAST_INT, -1, 3, 6, MOST_INT}) {
            Due.due("tell(" + a + ")", x.tell(a), TrickHouse.UNKNOWN);
        }
        Due.due("tell(0) without a CITY", new TrickHouse().tell(0), TrickHouse.UNKNOWN);
        Due.due("no body began", x.trace(), 0);
        Due.due("one who is not there is told, too", x.tell(0), 5);
    }

    private static void announce() {
        Due.says("ANNOUNCED by a lent body (4): its number; PERSONS have their own (5): 80.");
        TrickHouse x = Due.of("v00/9;t1500;t1000;t1000;t1000;p1000;b1000");
        int[] due = {0, 1, 2, 3, 80, 5};
        int trace = 0;
        for (int a = 0; a < 6; a++) {
            Due.due("announce(" + a + ")", x.announce(a), due[a]);
            trace = 31 * trace + (a == 4 ? 5 : 4);
            Due.due("trace() behind it", x.trace(), trace);
        }
        Due.says("How it is ANNOUNCED. UNKNOWN.");
        TrickHouse y = Due.of(THREE);
        for (int a : new int[] {LEAST_INT, -1, 3, 6, MOST_INT}) {
            Due.due("announce(" + a + ")", y.announce(a), TrickHouse.UNKNOWN);
        }
        Due.due("announce(0) without a CITY", new TrickHouse().announce(0), TrickHouse.UNKNOWN);
        Due.due("no body began", y.trace(), 0);
    }

    private static void as() {
        Due.says("An ARTICLE, taken as one of a kind: 1. UNKNOWN; OUTSIDE; CAST: it is none (each is a THING, too; a PERSON is a BEAST).");
        TrickHouse x = Due.of(THREE);
        int[][] due = {{1, CAST, CAST}, {1, 1, CAST}, {1, 1, 1}};
        for (int a = 0; a < 3; a++) {
            for (int kind = 0; kind < 3; kind++) {
                int want = due[a][kind];
                Due.answers(x, "as(" + a + ", " + kind + ")", x.as(a, kind), want, want == CAST ? 2 : 0);
            }
            for (int kind : new int[] {LEAST_INT, -1, 3, MOST_INT}) {
                Due.answers(x, "as(" + a + ", " + kind + ")", x.as(a, kind), TrickHouse.OUTSIDE, 0);
            }
        }
        for (int a : new int[] {LEAST_INT, -1, 3, 6, MOST_INT}) {
            Due.answers(x, "as(" + a + ", 0)", x.as(a, 0), TrickHouse.UNKNOWN, 0);
            Due.answers(x, "as(" + a + ", 3)", x.as(a, 3), TrickHouse.UNKNOWN, 0);
        }
        TrickHouse none = new TrickHouse();
        Due.answers(none, "as(0, 2) without a CITY", none.as(0, 2), TrickHouse.UNKNOWN, 0);
        Due.due("no body begins by it", x.trace(), 0);
    }

    private static void trace() {
        Due.says("(an int that wraps, 0 at first, becomes 31 times it and the number)");
        TrickHouse x = Due.of("v00/9;p1300");
        Due.due("at first", x.trace(), 0);
        // 5 times 1, 1 + 31, 1 + 31 + 31 * 31 ..: the seventh is 4585435685, beyond 2 ^ 32.
        int[] due = {5, 160, 4965, 153920, 4771525, 147917280, 290468389, 414585472, -32752251, -1015319776};
        for (int step = 0; step < due.length; step++) {
            Due.due("announce(0)", x.announce(0), 80);
            Due.due("trace() " + step, x.trace(), due[step]);
        }
        Due.due("trace() again", x.trace(), -1015319776);
        Due.says("A TEXT that is taken makes all anew: nobody is there, no READINGS.");
        Due.due("the same CITY anew", x.city(0, 0, 0, 11), 1);
        Due.due("TRACE is no CITY's", x.trace(), -1015319776);
        Due.rowIs(x, 0, 0, Due.codes("v00/9;p1300"));
    }

    // ---- FAULTS

    private static void fault() {
        Due.says("The FAULT of the latest call that names one: 0: it came to none, or was refused (0 ahead of any).");
        TrickHouse x = new TrickHouse();
        Due.due("ahead of any", x.fault(), 0);
        Due.due("NULL", x.put(0, 0, 0), NULL);
        Due.due("1", x.fault(), 1);
        Due.due("1 again", x.fault(), 1);
        Due.due("a sheet", x.sheet(0, 0, 0), 1);
        Due.due("came to none", x.fault(), 0);
        Due.due("CAST", x.cell(0, 0, 1), LOST);
        Due.due("2", x.fault(), 2);
        Due.due("INDEX", x.put(0, 0, 0), INDEX);
        Due.due("3", x.fault(), 3);
        Due.due("SIZE", x.sheet(0, 0, -1), SIZE);
        Due.due("4", x.fault(), 4);
        Due.due("refused", x.put(4, 0, 0), TrickHouse.UNKNOWN);
        Due.due("0", x.fault(), 0);
    }

    /** Each call that names no FAULT, as it answers and as it is refused: fault() stays 4. */
    private static void faultOfCallsThatNameOne() {
        Due.says("the latest call that names one");
        TrickHouse x = Due.of(THREE);
        Due.answers(x, "SIZE", x.sheet(3, 0, -1), SIZE, 4);
        long[] calls = {x.ofArticle(0, 0), x.ofArticle(9, 0), x.ofArticle(0, 9), x.space(0), x.space(9),
            x.cheer(0, 5), x.cheer(9, 5), x.cheer(0, 10), x.miss(0, 0), x.miss(9, 0), x.miss(0, 50),
            x.widen(0, 9), x.widen(9, 9), x.widen(0, 0), x.shift(0), x.shift(64), x.there(), x.company(1),
            x.company(-1), x.send(0), x.send(0), x.send(9), x.laughter(), x.heard(0), x.heard(64),
            x.packs(1, 0), x.packs(1, 9), x.fetch(1), x.fetch(2), x.fetch(64), x.lure(0), x.lure(1), x.lure(9),
            x.reading(0, 0), x.reading(64, 0), x.back(1), x.back(1), x.gaieties(0), x.gaieties(9), x.kinds(0),
            x.kinds(9), x.wheres(0), x.wheres(9), x.odds(0, 0), x.odds(9, 0), x.call(0), x.call(0), x.call(9),
            x.lose(3), x.lose(9), x.tell(0), x.tell(9), x.announce(0), x.announce(9), x.trace(), x.fault(),
            x.many(0), x.many(9)};
        Due.due("fault() behind " + calls.length + " calls that name none", x.fault(), 4);
        Due.due("lose(0)", x.lose(0), 1);
        Due.due("fault() behind it", x.fault(), 4);
    }

    // ---- how many

    private static void many() {
        Due.says("How many: 0 ARTICLES, 1 ROOMS, 2 ARTICLES who are there, 3 the CORNER where the house STANDS, 4 READINGS");
        TrickHouse x = Due.of("v77/1234;t1000;t1000;t1000;t1000;t1000;t1000");
        Due.due("six ARTICLES", x.many(0), 6);
        Due.due("four ROOMS", x.many(1), 4);
        Due.due("nobody", x.many(2), 0);
        Due.due("CORNER 63", x.many(3), 63);
        Due.due("no READINGS", x.many(4), 0);
        Due.send(x, 0, 1, 2, 3, 4, 5);
        Due.due("all", x.many(2), 6);
        for (int k = 0; k < 8; k++) {
            Due.due("reading", x.reading(0, 0), k);
        }
        Due.due("eight", x.many(4), 8);
        Due.due("shift(0)", x.shift(0), 63);
        Due.due("CORNER 0", x.many(3), 0);
        TrickHouse y = Due.of("v00/1;t1000");
        Due.due("one ARTICLE", y.many(0), 1);
        Due.due("one ROOM", y.many(1), 1);
    }

    private static void manyWithoutCity() {
        Due.says("(0 all without a CITY). OUTSIDE.");
        for (TrickHouse x : new TrickHouse[] {new TrickHouse(), Due.of(THREE)}) {
            for (int what : new int[] {LEAST_INT, -1, 5, MOST_INT}) {
                Due.due("many(" + what + ")", x.many(what), TrickHouse.OUTSIDE);
            }
        }
        TrickHouse none = new TrickHouse();
        Due.due("a TEXT that is none", Due.taken(none, "v77/1234;t100"), -113);
        for (int what = 0; what <= 4; what++) {
            Due.due("many(" + what + ")", none.many(what), 0);
        }
    }
}
