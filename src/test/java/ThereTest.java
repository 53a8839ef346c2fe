/** Promises 9 to 15: there, company, send, call, laughter, heard, year. */
public final class ThereTest {
    /** Laughs 5, 3, 6 and 0; the last longs for nothing, so it can be first. */
    private static final String MERRY = "v52/9;t1503;b1406;p1308;t1000";

    public static void main(String[] args) {
        withoutCity();
        company();
        companyIsTakenInRounds();
        sendAndCall();
        heard();
        yearsThatCanBe();
        yearsThatCannotBe();
        yearRefusals();
        yearIsFromNow();
        Due.end();
    }

    private static void withoutCity() {
        TrickHouse x = new TrickHouse();
        Due.due("there()", x.there(), TrickHouse.STATE);
        Due.due("company(-1)", x.company(-1), TrickHouse.STATE);
        Due.due("send(0)", x.send(0), TrickHouse.UNKNOWN);
        Due.due("call(0)", x.call(0), TrickHouse.UNKNOWN);
        Due.due("laughter()", x.laughter(), TrickHouse.STATE);
        Due.due("heard(64)", x.heard(64), TrickHouse.OUTSIDE);
        Due.due("heard(0)", x.heard(0), TrickHouse.STATE);
        Due.row(x, 0, 2, 9, 9);
        Due.due("year", x.year(0, 2, 0, 1, 0), TrickHouse.STATE);
        Due.due("fault() of a refusal", x.fault(), 0);
        Due.due("year beyond", x.year(0, 2, 0, 2, 0), -13);
        Due.due("fault()", x.fault(), 3);
    }

    private static void company() {
        TrickHouse x = Due.of(MERRY);
        Due.due("of nobody", x.company(0), 0);
        Due.due("of one who longs", x.company(1), 0);
        Due.due("of one who does not", x.company(8), 8);
        // 0 hears 3 of 3: it stays; 1 hears 5 of 6: it comes away, then 0 too.
        Due.due("of 0 and 1", x.company(3), 0);
        // 0 hears 6 of 3, 2 hears 5 of 8.
        Due.due("of 0 and 2", x.company(5), 0);
        // 0 hears 9 of 3, 1 hears 11 of 6, 2 hears 8 of 8: no less than its longing.
        Due.due("of 0, 1, 2", x.company(7), 7);
        Due.due("of all", x.company(15), 15);
        Due.due("nobody is there all the same", x.there(), 0);
        Due.due("of one who is not", x.company(16), TrickHouse.OUTSIDE);
        Due.due("of -1", x.company(-1), TrickHouse.OUTSIDE);
        Due.due("of the least", x.company(Integer.MIN_VALUE), TrickHouse.OUTSIDE);
    }

    private static void companyIsTakenInRounds() {
        // Each one is held as long as the one behind it is: six rounds, one of each.
        TrickHouse x = Due.of("v00/1;t1101;t1102;t1103;t1104;t1105;t1106");
        Due.due("one after another", x.company(63), 0);
        Due.due("miss(0, 0)", x.miss(0, 0), 1);
        Due.due("all but the first", x.company(63), 1);
        Due.due("miss(5, 5)", x.miss(5, 5), 6);
        Due.due("all are held", x.company(63), 63);
    }

    private static void sendAndCall() {
        TrickHouse x = Due.of(MERRY);
        Due.due("send(4)", x.send(4), TrickHouse.UNKNOWN);
        Due.due("send(-1)", x.send(-1), TrickHouse.UNKNOWN);
        Due.due("call(4)", x.call(4), TrickHouse.UNKNOWN);
        Due.due("call(3)", x.call(3), TrickHouse.STATE);
        Due.due("send(0) comes away itself", x.send(0), 1);
        Due.due("there()", x.there(), 0);
        Due.due("miss(0, 0)", x.miss(0, 0), 3);
        Due.due("miss(1, 5)", x.miss(1, 5), 6);
        Due.send(x, 0, 1, 2, 3);
        Due.due("there()", x.there(), 15);
        Due.due("many(2)", x.many(2), 4);
        Due.due("laughter()", x.laughter(), 14);
        Due.due("send(0) again", x.send(0), TrickHouse.STATE);
        Due.due("call(1), by which 2 comes", x.call(1), 4);
        Due.due("there()", x.there(), 9);
        Due.due("laughter()", x.laughter(), 5);
        Due.due("call(2)", x.call(2), TrickHouse.STATE);
        Due.due("call(3), by which none comes", x.call(3), 0);
        Due.due("miss(0, 9), who stays as it is", x.miss(0, 9), 0);
        Due.due("there()", x.there(), 1);
        Due.due("send(3), by which 0 comes", x.send(3), 1);
        Due.due("there()", x.there(), 8);
        Due.due("call(3)", x.call(3), 0);
        Due.due("laughter() of nobody", x.laughter(), 0);
    }

    private static void heard() {
        TrickHouse x = Due.of("v52/9;t1900");
        Due.due("of nobody", x.heard(21), 0);
        Due.send(x, 0);
        Due.due("at the house", x.heard(21), 9);
        Due.due("a column off", x.heard(20), 8);
        Due.due("a row off", x.heard(29), 8);
        Due.due("a column and a row off", x.heard(14), 7);
        Due.due("at 0", x.heard(0), 2);
        Due.due("at 56", x.heard(56), 0);
        Due.due("at 63", x.heard(63), 2);
        Due.due("heard(-1)", x.heard(-1), TrickHouse.OUTSIDE);
        Due.due("heard(64)", x.heard(64), TrickHouse.OUTSIDE);
    }

    private static void year(TrickHouse x, int pairs, int... due) {
        for (int what = 0; what < due.length; what++) {
            Due.due("year of " + pairs + ", " + what, x.year(1, 2, 0, pairs, what), due[what]);
            Due.due("fault()", x.fault(), 0);
        }
    }

    private static void yearsThatCanBe() {
        TrickHouse x = Due.of("v00/9;t1500;t1305;t1406;t1000");
        Due.row(x, 1, 2, 0, 0, 1, 0, 2, 0, 0, 1, 3, 0, 2, 0, 3, 1);
        year(x, 0, 0, TrickHouse.NONE, 0, 0, 0, 0);
        year(x, 1, 1, TrickHouse.NONE, 1, 0, 5, 5);
        year(x, 3, 3, TrickHouse.NONE, 7, 0, 12, 12);
        // 0 is called for: 1 hears 4 of 5 and 2 hears 3 of 6: both come away, 0 is not counted.
        year(x, 4, 0, TrickHouse.NONE, 0, 2, 0, 12);
        // 2 comes away for the second time.
        year(x, 6, 1, TrickHouse.NONE, 8, 3, 0, 12);
        year(x, 7, 0, TrickHouse.NONE, 0, 3, 0, 12);
        Due.due("nothing is changed", x.there(), 0);
    }

    private static void yearsThatCannotBe() {
        TrickHouse x = Due.of("v00/9;t1500;t1305;t1406;t1000");
        Due.row(x, 1, 2, 0, 0, 0, 0, 0, 0);
        year(x, 2, -101, 1, -101, -101, -101, -101);
        year(x, 3, -101, 1, -101, -101, -101, -101);
        Due.row(x, 1, 2, 0, 1);
        year(x, 1, -100, 0, -100, -100, -100, -100);
        // 1 comes away as it is sent, so there is nobody to call for.
        Due.row(x, 1, 2, 1, 0, 1, 1);
        year(x, 1, 0, TrickHouse.NONE, 0, 1, 0, 0);
        year(x, 2, -101, 1, -101, -101, -101, -101);
        // A pair that is none refuses the year, wherever it stands.
        Due.row(x, 1, 2, 0, 1, 4, 0);
        Due.due("4 is no article", x.year(1, 2, 0, 2, 1), TrickHouse.UNKNOWN);
        Due.row(x, 1, 2, 0, 1, 0, 2);
        Due.due("2 is neither", x.year(1, 2, 0, 2, 1), TrickHouse.OUTSIDE);
        Due.row(x, 1, 2, 0, 2, 4, 0);
        Due.due("pair by pair", x.year(1, 2, 0, 2, 0), TrickHouse.OUTSIDE);
        Due.row(x, 1, 2, 4, 2, 0, 2);
        Due.due("the first ahead of the second", x.year(1, 2, 0, 2, 0), TrickHouse.UNKNOWN);
        Due.row(x, 1, 2, -1, 0);
        Due.due("-1 is no article", x.year(1, 2, 0, 1, 0), TrickHouse.UNKNOWN);
        Due.row(x, 1, 2, 0, -1);
        Due.due("-1 is neither", x.year(1, 2, 0, 1, 0), TrickHouse.OUTSIDE);
    }

    private static void yearRefusals() {
        TrickHouse x = Due.of("v00/9;t1500");
        Due.row(x, 1, 1, new int[41]);
        Due.due("sheet 4", x.year(4, 9, 0, 0, 0), TrickHouse.UNKNOWN);
        Due.due("sheet -1", x.year(-1, 0, 0, 0, 0), TrickHouse.UNKNOWN);
        Due.due("lane 3", x.year(2, 3, 0, 0, 0), TrickHouse.OUTSIDE);
        Due.due("n -1", x.year(2, 1, 0, -1, 0), TrickHouse.OUTSIDE);
        Due.due("n 21", x.year(1, 1, 0, 21, 0), TrickHouse.OUTSIDE);
        Due.due("what -1", x.year(1, 1, 0, 0, -1), TrickHouse.OUTSIDE);
        Due.due("what 6", x.year(1, 1, 0, 0, 6), TrickHouse.OUTSIDE);
        Due.due("cast", x.year(1, 0, 50, 1, 0), -12);
        Due.due("fault() of cast", x.fault(), 2);
        Due.due("null", x.year(2, 0, 50, 1, 0), -11);
        Due.due("fault() of null", x.fault(), 1);
        Due.due("index", x.year(1, 1, 2, 20, 0), -13);
        Due.due("fault() of index", x.fault(), 3);
        Due.due("index behind the end", x.year(1, 1, 42, 0, 0), -13);
        Due.due("index below 0", x.year(1, 1, -1, 0, 0), -13);
        Due.due("index most", x.year(1, 1, Integer.MAX_VALUE, 20, 0), -13);
        Due.due("none, at the end", x.year(1, 1, 41, 0, 0), 0);
        Due.due("twenty", x.year(1, 1, 1, 20, 1), 1);
        Due.due("fault() then", x.fault(), 0);
    }

    private static void yearIsFromNow() {
        TrickHouse x = Due.of("v00/9;t1500;t1305;t1000");
        Due.send(x, 0, 1);
        Due.row(x, 1, 2, 9, 2, 0, 2, 0);
        Due.due("from cell 1 on", x.year(1, 2, 1, 1, 0), 3);
        Due.row(x, 1, 2, 0, 1, 2, 0);
        year(x, 0, 2, TrickHouse.NONE, 3, 0, 8, 0);
        year(x, 1, 0, TrickHouse.NONE, 0, 1, 0, 0);
        Due.due("the second pair alone", x.year(1, 2, 2, 1, 2), 7);
        Due.due("its greatest", x.year(1, 2, 2, 1, 5), 8);
        Due.due("nothing is changed", x.there(), 3);
    }
}
