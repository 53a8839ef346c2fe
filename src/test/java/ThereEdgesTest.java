/** Promises 9 to 15, sentence by sentence at its edges; "Terms", part 2. */
public final class ThereEdgesTest {
    private static final int NULL = -11, CAST = -12, INDEX = -13;
    private static final int LEAST_INT = Integer.MIN_VALUE, MOST_INT = Integer.MAX_VALUE;
    private static final int[] NO_CORNERS = {LEAST_INT, -1, 64, MOST_INT};

    /** Each laughs 1 and longs for nothing. */
    private static final String EASY = "v00/9;t1100;t1100;t1100;t1100;t1100;t1100";
    /** 0 laughs 9; 1 longs for that, 2 for what 1 laughs, 3 for nothing. */
    private static final String CHAIN = "v00/9;t1900;t1509;t1005;t1000";

    public static void main(String[] args) {
        there();
        company();
        companyRounds();
        companySets();
        send();
        call();
        laughter();
        heard();
        yearOfNone();
        yearOfTwenty();
        yearAnswers();
        yearFirstWrong();
        yearOutside();
        yearFaults();
        yearPairs();
        Due.end();
    }

    private static TrickHouse allThere(String text) {
        TrickHouse x = Due.of(text);
        for (int a = 0; a < x.many(0); a++) {
            Due.send(x, a);
        }
        return x;
    }

    private static void there() {
        Due.says("Who is there, as a set. STATE: there is no CITY.");
        Due.due("without a CITY", new TrickHouse().there(), TrickHouse.STATE);
        Due.due("nobody", Due.of(EASY).there(), 0);
        Due.due("all", allThere(EASY).there(), 63);
        Due.due("one of one", allThere("v00/1;t1000").there(), 1);
        TrickHouse x = Due.of(EASY);
        Due.send(x, 5);
        Due.due("the last alone", x.there(), 32);
    }

    // ---- COMPANY

    private static void company() {
        Due.says("all come away for whom LAUGHS of all others who are left are together less than their LONGING");
        TrickHouse x = Due.of("v00/9;t1300;t1003");
        Due.due("3 of 3: not less", x.company(3), 3);
        Due.due("miss(1, 4)", x.miss(1, 4), 3);
        Due.due("3 of 4: less", x.company(3), 1);
        TrickHouse alone = Due.of("v00/9;t1901");
        Due.due("its own LAUGH is no other's", alone.company(1), 0);
        Due.due("miss(0, 0)", alone.miss(0, 0), 1);
        Due.due("0 of 0: not less", alone.company(1), 1);
        TrickHouse merry = Due.of("v00/9;p1949;p1949;p1949;p1949;p1949;p1949");
        Due.due("of three, each hears 36 of 49", merry.company(7), 0);
        Due.due("of four, each hears 54 of 49", merry.company(15), 15);
        Due.due("all", merry.company(63), 63);
        Due.due("LAUGHS of a BEAST are 1 less", Due.of("v00/9;b1400;t1004").company(3), 1);
        Due.due("LAUGHS of a PERSON are twice", Due.of("v00/9;p1200;t1004").company(3), 3);
    }

    private static void companyRounds() {
        Due.says("again and again");
        TrickHouse x = Due.of(CHAIN);
        Due.due("with 0 all stay", x.company(15), 15);
        Due.due("without 0 first 1, then 2", x.company(14), 8);
        Due.due("without 1 only 2's place is empty", x.company(13), 13);
        Due.says("till nobody does");
        // The k-th of six hears 5, 4, 3, 2, 1, 0 as the last comes away in each round.
        TrickHouse six = Due.of("v00/1;t1101;t1102;t1103;t1104;t1105;t1106");
        Due.due("six rounds", six.company(63), 0);
        Due.due("miss(5, 5)", six.miss(5, 5), 6);
        Due.due("no round", six.company(63), 63);
    }

    private static void companySets() {
        Due.says("COMPANY of a set, as a set. STATE: there is no CITY; OUTSIDE: set (of ARTICLES that there are).");
        TrickHouse six = Due.of(EASY);
        for (int set = 0; set < 64; set++) {
            Due.due("company(" + set + ")", six.company(set), set);
        }
        TrickHouse one = Due.of("v00/1;t1000");
        Due.due("of nobody", one.company(0), 0);
        Due.due("of all", one.company(1), 1);
        Due.due("of two of one", one.company(2), TrickHouse.OUTSIDE);
        for (int set : new int[] {LEAST_INT, -1, 64, 65, MOST_INT}) {
            Due.due("company(" + set + ")", six.company(set), TrickHouse.OUTSIDE);
            Due.due("company(" + set + ") of one", one.company(set), TrickHouse.OUTSIDE);
            Due.due("company(" + set + ") without a CITY", new TrickHouse().company(set), TrickHouse.STATE);
        }
        Due.due("company(0) without a CITY", new TrickHouse().company(0), TrickHouse.STATE);
        Due.due("nobody is there by it", six.there(), 0);
    }

    // ---- TRICKS and CALLS

    private static void send() {
        Due.says("A TRICK with an ARTICLE: who comes AWAY by it, as a set. UNKNOWN; STATE: it is there.");
        TrickHouse x = Due.of(CHAIN);
        for (int a : new int[] {LEAST_INT, -1, 4, 6, 32, MOST_INT}) {
            Due.due("send(" + a + ")", x.send(a), TrickHouse.UNKNOWN);
        }
        Due.due("send(0) without a CITY", new TrickHouse().send(0), TrickHouse.UNKNOWN);
        Due.due("1, to nobody", x.send(1), 2);
        Due.due("nobody", x.there(), 0);
        Due.due("1 again: it is not there", x.send(1), 2);
        Due.send(x, 0, 1, 2, 3);
        for (int a = 0; a < 4; a++) {
            Due.due("all are there: send(" + a + ")", x.send(a), TrickHouse.STATE);
        }
        Due.due("all", x.there(), 15);
        Due.says("it is there then, too, but only the COMPANY of all who are then stays");
        TrickHouse y = Due.of("v00/9;t1100;t1100;t1300;t1000");
        Due.send(y, 0, 1);
        Due.due("miss(0, 4)", y.miss(0, 4), 0);
        Due.due("miss(1, 5)", y.miss(1, 5), 0);
        // 0 hears 1 and 3 of 4; 1 hears 1 and 3 of 5 and comes away; then 0 hears 3 of 4.
        Due.due("2, by whom two come AWAY", y.send(2), 3);
        Due.due("2 alone", y.there(), 4);
        TrickHouse z = Due.of("v00/9;t1100;t1300");
        Due.send(z, 0);
        Due.due("miss(0, 3)", z.miss(0, 3), 0);
        Due.due("1, whom 0 hears, too", z.send(1), 0);
        Due.due("both", z.there(), 3);
    }

    private static void call() {
        Due.says("A CALL for an ARTICLE: who comes AWAY by it, as a set (without that one). UNKNOWN; STATE: it is not there.");
        TrickHouse x = Due.of(CHAIN);
        for (int a : new int[] {LEAST_INT, -1, 4, 6, 32, MOST_INT}) {
            Due.due("call(" + a + ")", x.call(a), TrickHouse.UNKNOWN);
        }
        Due.due("call(0) without a CITY", new TrickHouse().call(0), TrickHouse.UNKNOWN);
        for (int a = 0; a < 4; a++) {
            Due.due("nobody is there: call(" + a + ")", x.call(a), TrickHouse.STATE);
        }
        Due.send(x, 3);
        Due.due("the only one", x.call(3), 0);
        Due.due("nobody", x.there(), 0);
        Due.due("call(3) again", x.call(3), TrickHouse.STATE);
        Due.says("takes it away, and only the COMPANY of the rest stays");
        TrickHouse y = allThere(CHAIN);
        Due.due("call(0), by which 1 and then 2 come", y.call(0), 6);
        Due.due("3 alone", y.there(), 8);
        TrickHouse z = allThere(CHAIN);
        Due.due("call(2), by which none comes", z.call(2), 0);
        Due.due("the rest", z.there(), 11);
    }

    // ---- LAUGHTER

    private static void laughter() {
        Due.says("LAUGHTER: LAUGHS of all who are there together.");
        Due.due("of nobody", Due.of(CHAIN).laughter(), 0);
        Due.due("of all", allThere(CHAIN).laughter(), 14);
        Due.due("of six PERSONS of 9", allThere("v00/9;p1900;p1900;p1900;p1900;p1900;p1900").laughter(), 108);
        Due.due("of one who does not", allThere("v00/9;b1100").laughter(), 0);
        Due.says("LAUGHTER. STATE: there is no CITY.");
        Due.due("without a CITY", new TrickHouse().laughter(), TrickHouse.STATE);
    }

    private static void heard() {
        Due.says("At a CORNER one HEARS it less by as many columns and rows together as it is off the house (0 at least).");
        TrickHouse x = allThere("v00/9;t1900");
        for (int corner = 0; corner < 64; corner++) {
            int off = corner / 8 + corner % 8;
            Due.due("9 at " + corner, x.heard(corner), off < 9 ? 9 - off : 0);
        }
        Due.due("the last of it", x.heard(15), 1);
        Due.due("just none", x.heard(23), 0);
        Due.due("far off", x.heard(63), 0);
        Due.due("shift(63)", x.shift(63), 0);
        Due.due("at the house", x.heard(63), 9);
        Due.due("a column off", x.heard(62), 8);
        Due.due("a row off", x.heard(55), 8);
        Due.due("the row's other end is seven columns off", x.heard(56), 2);
        Due.due("the next number is a row and seven columns off", x.heard(48), 1);
        Due.due("far off", x.heard(0), 0);
        Due.due("of nobody, at the house", Due.of(CHAIN).heard(0), 0);
        TrickHouse loud = allThere("v77/9;p1900;p1900;p1900;p1900;p1900;p1900");
        Due.due("108, 14 off", loud.heard(0), 94);
        Due.says("What one HEARS at a CORNER (0 .. 63). OUTSIDE; STATE: there is no CITY.");
        for (int corner : NO_CORNERS) {
            Due.due("heard(" + corner + ")", x.heard(corner), TrickHouse.OUTSIDE);
            Due.due("heard(" + corner + ") without a CITY", new TrickHouse().heard(corner), TrickHouse.OUTSIDE);
        }
        Due.due("heard(0) without a CITY", new TrickHouse().heard(0), TrickHouse.STATE);
        Due.due("heard(63) without a CITY", new TrickHouse().heard(63), TrickHouse.STATE);
    }

    // ---- YEARS

    private static void year(TrickHouse x, String what, int lane, int i, int n, int... due) {
        for (int k = 0; k < due.length; k++) {
            Due.answers(x, what + ", what " + k, x.year(1, lane, i, n, k), due[k], 0);
        }
    }

    private static void yearOfNone() {
        Due.says("the greatest LAUGHTER behind any pair (5; 0: there are none)");
        TrickHouse x = allThere(CHAIN);
        Due.due("sheet(1, 0, 0)", x.sheet(1, 0, 0), 1);
        year(x, "no pairs, from all", 0, 0, 0, 4, TrickHouse.NONE, 15, 0, 14, 0);
        TrickHouse y = Due.of(CHAIN);
        Due.due("sheet(1, 2, 60)", y.sheet(1, 2, 60), 1);
        year(y, "no pairs, from nobody", 2, 60, 0, 0, TrickHouse.NONE, 0, 0, 0, 0);
        TrickHouse z = Due.of(CHAIN);
        Due.row(z, 1, 0, 1, 0, 0, 0, 0, 0);
        year(z, "a year with a greatest and one AWAY", 0, 0, 2, 1, TrickHouse.NONE, 1, 1, 9, 9);
        year(z, "no pairs, behind it", 0, 0, 0, 0, TrickHouse.NONE, 0, 0, 0, 0);
        year(z, "a year that can't be", 0, 0, 3, -102, 2, -102, -102, -102, -102);
        year(z, "no pairs, behind it", 0, 6, 0, 0, TrickHouse.NONE, 0, 0, 0, 0);
    }

    private static int[] turns(int pairs, int a) {
        int[] cells = new int[2 * pairs];
        for (int p = 0; p < pairs; p++) {
            cells[2 * p] = a;
            cells[2 * p + 1] = p % 2;
        }
        return cells;
    }

    private static void yearOfTwenty() {
        Due.says("n (0 .. 20)");
        for (int lane = 0; lane <= 2; lane++) {
            TrickHouse x = Due.of(CHAIN);
            Due.row(x, 1, lane, turns(20, 0));
            year(x, "twenty pairs", lane, 0, 20, 0, TrickHouse.NONE, 0, 0, 0, 9);
            year(x, "nineteen of them", lane, 0, 19, 1, TrickHouse.NONE, 1, 0, 9, 9);
            year(x, "the last alone", lane, 38, 1, -100, 0, -100, -100, -100, -100);
            Due.answers(x, "twenty, from cell 1 on", x.year(1, lane, 1, 20, 0), INDEX, 3);
        }
        TrickHouse y = Due.of(CHAIN);
        Due.due("sheet(1, 1, 60)", y.sheet(1, 1, 60), 1);
        for (int p = 0; p < 20; p++) {
            Due.due("put", y.put(1, 20 + 2 * p, 0), 1);
            Due.due("put", y.put(1, 21 + 2 * p, p % 2), 1);
        }
        year(y, "twenty pairs up to cell 59", 1, 20, 20, 0, TrickHouse.NONE, 0, 0, 0, 9);
        Due.answers(y, "twenty, from cell 21 on", y.year(1, 1, 21, 20, 0), INDEX, 3);
        Due.answers(y, "21 pairs", y.year(1, 1, 0, 21, 0), TrickHouse.OUTSIDE, 0);
        TrickHouse z = Due.of(CHAIN);
        int[] cells = turns(20, 0);
        cells[39] = 0;
        Due.row(z, 1, 0, cells);
        year(z, "the twentieth can't be", 0, 0, 20, -119, 19, -119, -119, -119, -119);
    }

    private static void yearAnswers() {
        Due.says("how many came AWAY in it, in all (3; one who does so twice, twice)");
        TrickHouse x = Due.of(CHAIN);
        Due.row(x, 1, 2, 1, 0, 1, 0, 0, 0, 1, 0, 2, 0, 0, 1);
        year(x, "one who is sent twice and stays never", 2, 0, 2, 0, TrickHouse.NONE, 0, 2, 0, 0);
        year(x, "it stays the third time", 2, 0, 4, 2, TrickHouse.NONE, 3, 2, 14, 14);
        // By the CALL for 0 both 1 and 2 come AWAY; 0 itself is called for.
        year(x, "two more by a CALL", 2, 0, 6, 0, TrickHouse.NONE, 0, 4, 0, 14);
        Due.says("who is there then, as a set (2)");
        TrickHouse all = Due.of(EASY);
        Due.row(all, 1, 0, 0, 0, 1, 0, 2, 0, 3, 0, 4, 0, 5, 0);
        year(all, "all", 0, 0, 6, 6, TrickHouse.NONE, 63, 0, 6, 6);
        Due.says("from who is there now (nothing is changed)");
        TrickHouse y = allThere(CHAIN);
        Due.row(y, 1, 1, 0, 1, 3, 1, 3, 0);
        year(y, "from all", 1, 0, 1, 1, TrickHouse.NONE, 8, 2, 0, 0);
        year(y, "from all to nobody", 1, 0, 2, 0, TrickHouse.NONE, 0, 2, 0, 0);
        year(y, "and 3 again", 1, 0, 3, 1, TrickHouse.NONE, 8, 2, 0, 0);
        Due.due("all are there still", y.there(), 15);
        Due.due("LAUGHTER still", y.laughter(), 14);
        Due.says("COMPANY of a set of ARTICLES");
        TrickHouse z = allThere(EASY);
        Due.due("miss(1, 49)", z.miss(1, 49), 0);
        Due.row(z, 1, 0, 0, 1);
        year(z, "one who would have come is kept till a pair", 0, 0, 0, 6, TrickHouse.NONE, 63, 0, 6, 0);
        year(z, "and comes with any", 0, 0, 1, 4, TrickHouse.NONE, 60, 1, 4, 4);
    }

    private static void yearFirstWrong() {
        Due.says("FIRST WRONG: the first TRICK with one who is there, CALL for one who is not.");
        TrickHouse x = Due.of(CHAIN);
        Due.row(x, 1, 0, 3, 1);
        year(x, "a CALL for one who is not", 0, 0, 1, -100, 0, -100, -100, -100, -100);
        Due.row(x, 1, 0, 3, 0, 3, 0, 2, 1);
        year(x, "a TRICK with one who is", 0, 0, 2, -101, 1, -101, -101, -101, -101);
        year(x, "the first of two", 0, 0, 3, -101, 1, -101, -101, -101, -101);
        year(x, "ahead of it", 0, 0, 1, 1, TrickHouse.NONE, 8, 0, 0, 0);
        Due.row(x, 1, 0, 1, 0, 1, 1);
        year(x, "a CALL for one who came AWAY", 0, 0, 2, -101, 1, -101, -101, -101, -101);
        TrickHouse y = allThere(CHAIN);
        Due.row(y, 1, 0, 0, 1, 1, 1);
        year(y, "a CALL for one who came AWAY by another", 0, 0, 2, -101, 1, -101, -101, -101, -101);
        Due.row(y, 1, 0, 0, 1, 1, 0, 0, 0, 1, 0, 1, 1);
        year(y, "a TRICK with one who came AWAY", 0, 0, 5, 2, TrickHouse.NONE, 9, 3, 9, 14);
        Due.row(y, 1, 0, 0, 0);
        year(y, "all are there", 0, 0, 1, -100, 0, -100, -100, -100, -100);
        Due.due("all are there still", y.there(), 15);
    }

    private static void yearOutside() {
        Due.says("UNKNOWN: SHEET; OUTSIDE: lane, n (0 .. 20), what (0 .. 5); FAULTS CAST, NULL, INDEX; STATE: there is no CITY");
        TrickHouse x = Due.of(CHAIN);
        Due.due("sheet(1, 1, 60)", x.sheet(1, 1, 60), 1);
        for (int k : new int[] {LEAST_INT, -1, 4, MOST_INT}) {
            Due.answers(x, "SHEET " + k, x.year(k, 3, -1, 21, 6), TrickHouse.UNKNOWN, 0);
        }
        for (int lane : new int[] {LEAST_INT, -1, 3, MOST_INT}) {
            Due.answers(x, "lane " + lane, x.year(1, lane, 0, 0, 0), TrickHouse.OUTSIDE, 0);
            Due.answers(x, "lane " + lane + " of nothing", x.year(2, lane, -1, 0, 0), TrickHouse.OUTSIDE, 0);
        }
        for (int n : new int[] {LEAST_INT, -1, 21, 1 << 30, MOST_INT}) {
            Due.answers(x, "n " + n, x.year(1, 1, 0, n, 0), TrickHouse.OUTSIDE, 0);
            Due.answers(x, "n " + n + " of nothing", x.year(2, 1, -1, n, 0), TrickHouse.OUTSIDE, 0);
            Due.answers(x, "n " + n + ", another lane", x.year(1, 0, -1, n, 0), TrickHouse.OUTSIDE, 0);
        }
        for (int what : new int[] {LEAST_INT, -1, 6, MOST_INT}) {
            Due.answers(x, "what " + what, x.year(1, 1, 0, 0, what), TrickHouse.OUTSIDE, 0);
            Due.answers(x, "what " + what + " of nothing", x.year(2, 1, -1, 0, what), TrickHouse.OUTSIDE, 0);
        }
    }

    private static void yearFaults() {
        Due.says("FAULTS CAST, NULL, INDEX; STATE: there is no CITY");
        TrickHouse none = new TrickHouse();
        for (TrickHouse x : new TrickHouse[] {none, Due.of(CHAIN)}) {
            Due.row(x, 1, 1, 3, 0, 3);
            Due.due("sheet(2, 0, 0)", x.sheet(2, 0, 0), 1);
            Due.answers(x, "bytes", x.year(1, 0, -1, 20, 0), CAST, 2);
            Due.answers(x, "ints", x.year(1, 2, 0, 1, 0), CAST, 2);
            for (int lane = 0; lane <= 2; lane++) {
                Due.answers(x, "nothing", x.year(3, lane, -1, 20, 0), NULL, 1);
            }
            Due.answers(x, "two pairs of three cells", x.year(1, 1, 0, 2, 0), INDEX, 3);
            Due.answers(x, "a pair from 2 on", x.year(1, 1, 2, 1, 0), INDEX, 3);
            Due.answers(x, "a pair from -1 on", x.year(1, 1, -1, 1, 0), INDEX, 3);
            Due.answers(x, "from the most on", x.year(1, 1, MOST_INT, 20, 0), INDEX, 3);
            Due.answers(x, "from the least on", x.year(1, 1, LEAST_INT, 20, 0), INDEX, 3);
            Due.answers(x, "a pair of no cells", x.year(2, 0, 0, 1, 0), INDEX, 3);
        }
        Due.answers(none, "no CITY", none.year(1, 1, 0, 1, 0), TrickHouse.STATE, 0);
        Due.answers(none, "no CITY, no pairs", none.year(1, 1, 0, 0, 1), TrickHouse.STATE, 0);
        Due.answers(none, "no CITY, pairs that are none", none.year(1, 1, 1, 1, 0), TrickHouse.STATE, 0);
        Due.says("(of cells from i on also where i is not 0 .. how many there are, if none of them is taken, too)");
        TrickHouse x = Due.of(CHAIN);
        Due.row(x, 1, 1, 3, 0, 3);
        Due.answers(x, "none, from -1 on", x.year(1, 1, -1, 0, 0), INDEX, 3);
        Due.answers(x, "none, from 0 on", x.year(1, 1, 0, 0, 0), 0, 0);
        Due.answers(x, "none, from 3 on", x.year(1, 1, 3, 0, 0), 0, 0);
        Due.answers(x, "none, from 4 on", x.year(1, 1, 4, 0, 0), INDEX, 3);
        Due.answers(x, "none, from the most on", x.year(1, 1, MOST_INT, 0, 0), INDEX, 3);
        Due.answers(x, "none, from the least on", x.year(1, 1, LEAST_INT, 0, 0), INDEX, 3);
    }

    private static void pairs(TrickHouse x, int due, int lane, int... cells) {
        Due.row(x, 1, lane, cells);
        for (int what = 0; what <= 5; what++) {
            Due.answers(x, "what " + what, x.year(1, lane, 0, cells.length / 2, what), due, 0);
        }
    }

    private static void yearPairs() {
        Due.says("pair by pair UNKNOWN: the first is no ARTICLE; OUTSIDE: the second is not 0, 1.");
        TrickHouse x = Due.of(CHAIN);
        pairs(x, TrickHouse.UNKNOWN, 2, -1, 0);
        pairs(x, TrickHouse.UNKNOWN, 2, 4, 0);
        pairs(x, TrickHouse.UNKNOWN, 2, 32, 1);
        pairs(x, TrickHouse.UNKNOWN, 2, LEAST_INT, 0);
        pairs(x, TrickHouse.UNKNOWN, 2, MOST_INT, MOST_INT);
        pairs(x, TrickHouse.OUTSIDE, 2, 0, -1);
        pairs(x, TrickHouse.OUTSIDE, 2, 0, 2);
        pairs(x, TrickHouse.OUTSIDE, 2, 0, LEAST_INT);
        pairs(x, TrickHouse.OUTSIDE, 2, 0, MOST_INT);
        pairs(x, TrickHouse.OUTSIDE, 0, 0, 2, 4, 0);
        pairs(x, TrickHouse.UNKNOWN, 0, 4, 2, 0, 2);
        pairs(x, TrickHouse.UNKNOWN, 1, 0, 0, 4, 0);
        pairs(x, TrickHouse.OUTSIDE, 1, 0, 0, 1, 2);
        Due.says("of one with a FIRST WRONG: -100 less that (but what 1)");
        pairs(x, TrickHouse.UNKNOWN, 0, 0, 1, 4, 0);
        pairs(x, TrickHouse.OUTSIDE, 0, 0, 1, 0, 2);
        Due.says("A YEAR of n pairs, that are cells of a SHEET from i on (2 n)");
        TrickHouse y = Due.of(CHAIN);
        Due.row(y, 1, 2, 9, 9, 9, 3, 0, 9, 9);
        year(y, "cells ahead and behind are not looked at", 2, 3, 1, 1, TrickHouse.NONE, 8, 0, 0, 0);
        Due.row(y, 1, 0, 256, 512, 259, -255 + 255);
        year(y, "cells that were cut", 0, 0, 2, 2, TrickHouse.NONE, 9, 0, 9, 9);
    }
}
