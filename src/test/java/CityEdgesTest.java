import java.util.Arrays;

/** Promises 1 to 8, sentence by sentence at its edges; "Terms", part 1. */
public final class CityEdgesTest {
    private static final int NULL = -11, CAST = -12, INDEX = -13, SIZE = -14;
    private static final int LEAST_INT = Integer.MIN_VALUE, MOST_INT = Integer.MAX_VALUE;

    /** Texts of most codes: the least code that may stand at each place, and the greatest. */
    private static final String LEAST = "v00/1111;b1000;b1000;b1000;b1000;b1000;b1000";
    private static final String MOST = "v77/9999;t9949;t9949;t9949;t9949;t9949;t9949";
    private static final String ONE = "v00/1;t1000";

    public static void main(String[] args) {
        newObject();
        text();
        textAtEachPlace();
        textLength();
        cityCells();
        cityFaults();
        allAnew();
        laughs();
        articles();
        rooms();
        cheer();
        miss();
        widen();
        shift();
        Due.end();
    }

    private static void newObject() {
        Due.says("No CITY (no house, ROOMS, ARTICLES), SHEETS have nothing.");
        TrickHouse x = new TrickHouse();
        Due.due("fault()", x.fault(), 0);
        Due.due("trace()", x.trace(), 0);
        for (int what = 0; what <= 4; what++) {
            Due.due("many(" + what + ")", x.many(what), 0);
        }
        Due.due("there()", x.there(), TrickHouse.STATE);
        Due.due("shift(0)", x.shift(0), TrickHouse.STATE);
        for (int k = 0; k < 6; k++) {
            Due.due("space(" + k + ")", x.space(k), TrickHouse.UNKNOWN);
            Due.due("ofArticle(" + k + ", 0)", x.ofArticle(k, 0), TrickHouse.UNKNOWN);
        }
        for (int k = 0; k < 4; k++) {
            Due.answers(x, "put(" + k + ", 0, 0)", x.put(k, 0, 0), NULL, 1);
            Due.due("lose(" + k + ")", x.lose(k), 0);
        }
    }

    // ---- the TEXT

    /** A text with a FIRST FAULT there: no city of it, and it is no fault of the machine's. */
    private static void fault(int lane, int[] codes, int place) {
        TrickHouse x = new TrickHouse();
        Due.row(x, 2, lane, codes);
        Due.answers(x, "city of " + Arrays.toString(codes), x.city(2, lane, 0, codes.length), -100 - place, 0);
        Due.due("many(0) behind it", x.many(0), 0);
        Due.due("many(1) behind it", x.many(1), 0);
    }

    private static void fault(String text, int place) {
        fault(0, Due.codes(text), place);
    }

    private static void corner(String text, int corner) {
        Due.due("corner of " + text, Due.of(text).many(3), corner);
    }

    private static void text() {
        Due.says("that in column x, row y has the number 8 y and x");
        corner("v00/1;t1000", 0);
        corner("v70/1;t1000", 7);
        corner("v01/1;t1000", 8);
        corner("v07/1;t1000", 56);
        corner("v77/1;t1000", 63);
        Due.says("1 to 4 digits 1 .. 9 (SPACE of ROOMS, numbered from 0 on)");
        for (int rooms = 1; rooms <= 4; rooms++) {
            TrickHouse x = Due.of("v00/" + "1928".substring(0, rooms) + ";t1000");
            Due.due("many(1)", x.many(1), rooms);
            for (int k = 0; k < 4; k++) {
                Due.due("space(" + k + ")", x.space(k), k < rooms ? "1928".charAt(k) - '0' : TrickHouse.UNKNOWN);
            }
        }
        fault("v00/;t1000", 4);
        Due.says("then 1 to 6 ARTICLES, numbered from 0 on");
        for (int articles = 1; articles <= 6; articles++) {
            TrickHouse x = Due.of("v00/1" + ";t1000;b2111;p3222;t4333;b5444;p6549".substring(0, 6 * articles));
            Due.due("many(0)", x.many(0), articles);
            for (int a = 0; a < 6; a++) {
                Due.due("BULK of " + a, x.ofArticle(a, 1), a < articles ? a + 1 : TrickHouse.UNKNOWN);
            }
        }
        fault("v00/1", 5);
        Due.says("(the digit of a fifth ROOM, the ; of a seventh ARTICLE)");
        fault("v00/11111;t1000", 8);
        fault(ONE + ";t1000;t1000;t1000;t1000;t1000;t1000", 41);
        fault(MOST + ";t1000", 44);
        Due.says("the place (from 0 on) of the first code with which no TEXT goes on");
        fault("w88:0", 0);
        fault("v88:0", 1);
        fault("v78:0", 2);
        fault("v77:0", 3);
        fault("v77/0", 4);
        fault("v00/1;;;;", 6);
        fault("v00/12;t1:50", 9);
        fault("v00/1;t1059;x", 9);
    }

    private static int[] with(String text, int place, int code) {
        int[] codes = Due.codes(text);
        codes[place] = code;
        return codes;
    }

    private static void textAtEachPlace() {
        Due.says("v, a digit 0 .. 7 (the column), a digit 0 .. 7 (the row of the CORNER where the house STANDS), a /");
        Due.due("least", Due.of(LEAST).many(3), 0);
        Due.due("greatest", Due.of(MOST).many(3), 63);
        placesBeside(0, 4);
        Due.says("1 to 4 digits 1 .. 9");
        placesBeside(4, 8);
        Due.says("each: ; and a letter, a digit 1 .. 9 (BULK), a digit 0 .. 9 (GAIETY), two digits 00 .. 49 (LONGING)");
        placesBeside(8, 44);
        fault("v00/1111;b1000;b1050", 18);
        fault("v00/1;t1099", 9);
        Due.says("Kinds: 0 THING (t); 1 BEAST (b), a THING; 2 PERSON (p), a BEAST.");
        TrickHouse x = Due.of("v00/1;t1000;b1000;p1000");
        for (int a = 0; a < 3; a++) {
            Due.due("kind of " + a, x.ofArticle(a, 0), a);
        }
        for (int code = -128; code < 128; code++) {
            if (code != 'b' && code != 'p' && code != 't') {
                fault(0, with(ONE, 6, code), 6);
            }
        }
        Due.says("(Codes: v 118, t 116, b 98, p 112, / 47, ; 59, digits 48 .. 57.)");
        TrickHouse y = new TrickHouse();
        Due.row(y, 0, 2, 118, 55, 48, 47, 57, 59, 116, 49, 48, 52, 57, 59, 98, 57, 57, 48, 48, 59, 112, 53, 53, 51, 51);
        Due.due("city of codes", y.city(0, 2, 0, 23), 3);
        Due.due("corner", y.many(3), 7);
        Due.due("its LONGING", y.ofArticle(0, 3), 49);
        Due.due("GAIETY of the BEAST", y.ofArticle(1, 2), 9);
        Due.due("kind of the PERSON", y.ofArticle(2, 0), 2);
    }

    /** Codes just below the least and above the greatest, and some far off, at each of the places. */
    private static void placesBeside(int from, int to) {
        for (int place = from; place < to; place++) {
            fault(0, with(LEAST, place, LEAST.charAt(place) - 1), place);
            fault(0, with(MOST, place, MOST.charAt(place) + 1), place);
            fault(0, with(MOST, place, 0), place);
            fault(0, with(MOST, place, -1), place);
            fault(0, with(MOST, place, 127), place);
            fault(1, with(MOST, place, MOST.charAt(place) + 256), place);
            fault(2, with(MOST, place, MOST.charAt(place) + 65536), place);
            fault(2, with(MOST, place, LEAST_INT), place);
            fault(2, with(MOST, place, MOST_INT), place);
        }
    }

    private static void textLength() {
        Due.says("how many codes there are, if it just ends too soon");
        TrickHouse x = new TrickHouse();
        Due.row(x, 0, 0, Due.codes(MOST));
        for (int n = 0; n <= 44; n++) {
            boolean whole = n > 8 && (n - 8) % 6 == 0;
            Due.due("first " + n + " codes, four ROOMS", x.city(0, 0, 0, n), whole ? (n - 8) / 6 : -100 - n);
        }
        TrickHouse y = new TrickHouse();
        Due.row(y, 0, 0, Due.codes(ONE + ";b1000"));
        for (int n = 0; n <= 17; n++) {
            int due = n == 11 ? 1 : n == 17 ? 2 : -100 - n;
            Due.due("first " + n + " codes, one ROOM", y.city(0, 0, 0, n), due);
        }
        Due.says("the first code with which no TEXT goes on");
        for (char code : "v/t09".toCharArray()) {
            fault(ONE + code, 11);
            fault(MOST + code, 44);
        }
        fault(ONE + ";", 12);
        fault(MOST + ";", 44);
    }

    private static void cityCells() {
        Due.says("A CITY by a TEXT of n cells of a SHEET from i on, taken as a row of a LANE: how many ARTICLES");
        for (int lane = 0; lane <= 2; lane++) {
            TrickHouse x = new TrickHouse();
            Due.due("sheet", x.sheet(1, lane, 60), 1);
            for (int p = 0; p < 44; p++) {
                Due.due("put", x.put(1, 16 + p, MOST.charAt(p)), 1);
            }
            Due.answers(x, "up to the last cell", x.city(1, lane, 16, 44), 6, 0);
            Due.answers(x, "one cell on", x.city(1, lane, 17, 44), INDEX, 3);
            Due.answers(x, "the first cells", x.city(1, lane, 0, 16), -100, 0);
            Due.answers(x, "cells behind n are not looked at", x.city(1, lane, 16, 14), 1, 0);
            Due.due("one ARTICLE", x.many(0), 1);
        }
        Due.says("-100 less the FIRST FAULT");
        TrickHouse x = new TrickHouse();
        Due.row(x, 0, 0, Due.codes("zzz" + ONE + "zzz"));
        Due.answers(x, "places are from the TEXT's first on", x.city(0, 0, 3, 12), -111, 0);
        Due.answers(x, "first code of another row", x.city(0, 0, 2, 12), -100, 0);
        Due.answers(x, "no codes", x.city(0, 0, 0, 0), -100, 0);
        Due.says("what comes to a cell of it is cut to its LANE");
        TrickHouse y = new TrickHouse();
        int[] codes = Due.codes(ONE);
        for (int p = 0; p < codes.length; p++) {
            codes[p] += 256 * (p + 1);
        }
        Due.row(y, 0, 0, codes);
        Due.due("bytes", y.city(0, 0, 0, 11), 1);
        Due.row(y, 0, 1, codes);
        Due.due("shorts", y.city(0, 1, 0, 11), -100);
    }

    private static void cityFaults() {
        Due.says("UNKNOWN; OUTSIDE: lane; FAULTS CAST (nothing is no CAST), NULL, SIZE: n is below 0, INDEX: not all cells are there; -100 less it.");
        TrickHouse x = new TrickHouse();
        Due.row(x, 0, 1, Due.codes(ONE));
        Due.due("sheet(2, 0, 0)", x.sheet(2, 0, 0), 1);
        for (int k : new int[] {LEAST_INT, -1, 4, MOST_INT}) {
            Due.answers(x, "SHEET " + k, x.city(k, 3, -1, -1), TrickHouse.UNKNOWN, 0);
        }
        for (int lane : new int[] {LEAST_INT, -1, 3, MOST_INT}) {
            Due.answers(x, "LANE " + lane, x.city(0, lane, -1, -1), TrickHouse.OUTSIDE, 0);
            Due.answers(x, "LANE " + lane + " of nothing", x.city(1, lane, -1, -1), TrickHouse.OUTSIDE, 0);
        }
        Due.answers(x, "bytes", x.city(0, 0, -1, -1), CAST, 2);
        Due.answers(x, "ints", x.city(0, 2, 0, 11), CAST, 2);
        Due.answers(x, "of no cells, as ints", x.city(2, 2, 0, 0), CAST, 2);
        for (int lane = 0; lane <= 2; lane++) {
            Due.answers(x, "nothing as of LANE " + lane, x.city(1, lane, -1, -1), NULL, 1);
        }
        Due.answers(x, "n -1", x.city(0, 1, -1, -1), SIZE, 4);
        Due.answers(x, "n least", x.city(0, 1, 12, LEAST_INT), SIZE, 4);
        Due.answers(x, "n 12", x.city(0, 1, 0, 12), INDEX, 3);
        Due.answers(x, "n most", x.city(0, 1, 0, MOST_INT), INDEX, 3);
        Due.answers(x, "i and n most", x.city(0, 1, MOST_INT, MOST_INT), INDEX, 3);
        Due.answers(x, "i 1, n 11", x.city(0, 1, 1, 11), INDEX, 3);
        Due.answers(x, "i -1, n 11", x.city(0, 1, -1, 11), INDEX, 3);
        Due.due("no CITY of all these", x.there(), TrickHouse.STATE);
        Due.says("(of cells from i on also where i is not 0 .. how many there are, if none of them is taken, too)");
        Due.answers(x, "none, from -1 on", x.city(0, 1, -1, 0), INDEX, 3);
        Due.answers(x, "none, from the least on", x.city(0, 1, LEAST_INT, 0), INDEX, 3);
        Due.answers(x, "none, from 0 on", x.city(0, 1, 0, 0), -100, 0);
        Due.answers(x, "none, from 11 on", x.city(0, 1, 11, 0), -100, 0);
        Due.answers(x, "none, from 12 on", x.city(0, 1, 12, 0), INDEX, 3);
        Due.answers(x, "none, from the most on", x.city(0, 1, MOST_INT, 0), INDEX, 3);
        Due.answers(x, "none of none", x.city(2, 0, 0, 0), -100, 0);
        Due.answers(x, "none of none, from 1 on", x.city(2, 0, 1, 0), INDEX, 3);
        Due.answers(x, "one of none", x.city(2, 0, 0, 1), INDEX, 3);
        Due.answers(x, "all", x.city(0, 1, 0, 11), 1, 0);
    }

    private static TrickHouse changed() {
        TrickHouse x = Due.of("v77/9999;t9900;b9900;p9900;t9900;b9900;p9900");
        Due.send(x, 0, 1, 2, 3, 4, 5);
        Due.due("cheer(0, 1)", x.cheer(0, 1), 9);
        Due.due("miss(0, 1)", x.miss(0, 1), 0);
        Due.due("widen(0, 1)", x.widen(0, 1), 9);
        Due.due("shift(1)", x.shift(1), 63);
        Due.due("reading(0, 0)", x.reading(0, 0), 0);
        return x;
    }

    private static void allAnew() {
        Due.says("A TEXT that is taken makes all anew: nobody is there, no READINGS.");
        TrickHouse x = changed();
        Due.due("the same TEXT again", x.city(0, 0, 0, 44), 6);
        Due.due("nobody is there", x.there(), 0);
        Due.due("nobody is there, of many", x.many(2), 0);
        Due.due("no READINGS", x.many(4), 0);
        Due.due("by none all are so", x.gaieties(0), 1023);
        Due.due("GAIETY", x.ofArticle(0, 2), 9);
        Due.due("LONGING", x.ofArticle(0, 3), 0);
        Due.due("SPACE", x.space(0), 9);
        Due.due("CORNER", x.many(3), 63);
        TrickHouse y = changed();
        Due.due("a lesser one", Due.taken(y, ONE), 1);
        Due.due("one ARTICLE", y.ofArticle(1, 0), TrickHouse.UNKNOWN);
        Due.due("one ROOM", y.space(1), TrickHouse.UNKNOWN);
        Due.due("nobody is there", y.there(), 0);
        Due.due("sets of it", y.company(2), TrickHouse.OUTSIDE);
        Due.due("a greater one again", Due.taken(y, LEAST), 6);
        Due.due("its last", y.ofArticle(5, 0), 1);
        Due.says("they change nothing");
        TrickHouse z = changed();
        Due.row(z, 1, 0, Due.codes(ONE + ";"));
        Due.due("a TEXT that ends too soon", z.city(1, 0, 0, 12), -112);
        Due.due("a SIZE", z.city(1, 0, 0, -1), SIZE);
        Due.due("all are there", z.there(), 63);
        Due.due("READINGS", z.many(4), 1);
        Due.due("GAIETY", z.ofArticle(0, 2), 1);
        Due.due("LONGING", z.ofArticle(0, 3), 1);
        Due.due("BULK", z.ofArticle(0, 1), 9);
        Due.due("SPACE", z.space(0), 1);
        Due.due("ROOMS", z.many(1), 4);
        Due.due("CORNER", z.many(3), 1);
    }

    // ---- ARTICLES, ROOMS, the CORNER

    private static void laughs() {
        Due.says("LAUGH: of a THING GAIETY; of a BEAST 1 less (0 at least); of a PERSON twice what a THING's is.");
        TrickHouse x = Due.of("v00/1;t1000;b1000;p1000");
        for (int gaiety = 0; gaiety <= 9; gaiety++) {
            for (int a = 0; a < 3; a++) {
                x.cheer(a, gaiety);
            }
            Due.due("THING of " + gaiety, x.ofArticle(0, 4), gaiety);
            Due.due("BEAST of " + gaiety, x.ofArticle(1, 4), gaiety == 0 ? 0 : gaiety - 1);
            Due.due("PERSON of " + gaiety, x.ofArticle(2, 4), gaiety * 2);
        }
    }

    private static void articles() {
        Due.says("Of an ARTICLE: 0 kind, 1 BULK, 2 GAIETY, 3 LONGING, 4 LAUGH, 5 whether it is there (1, 0). UNKNOWN; OUTSIDE.");
        TrickHouse x = Due.of("v00/1;p1900;b9149");
        int[][] due = {{2, 1, 9, 0, 18, 0}, {1, 9, 1, 49, 0, 0}};
        for (int what = 0; what <= 5; what++) {
            Due.due("ofArticle(0, " + what + ")", x.ofArticle(0, what), due[0][what]);
            Due.due("ofArticle(1, " + what + ")", x.ofArticle(1, what), due[1][what]);
        }
        for (int what : new int[] {LEAST_INT, -1, 6, MOST_INT}) {
            Due.due("ofArticle(1, " + what + ")", x.ofArticle(1, what), TrickHouse.OUTSIDE);
        }
        for (int a : new int[] {LEAST_INT, -1, 2, 5, 6, MOST_INT}) {
            Due.due("ofArticle(" + a + ", 5)", x.ofArticle(a, 5), TrickHouse.UNKNOWN);
            Due.due("ofArticle(" + a + ", 6)", x.ofArticle(a, 6), TrickHouse.UNKNOWN);
        }
        Due.send(x, 0);
        Due.due("it is there", x.ofArticle(0, 5), 1);
        Due.due("the other is not", x.ofArticle(1, 5), 0);
        Due.due("call(0)", x.call(0), 0);
        Due.due("it is not there", x.ofArticle(0, 5), 0);
    }

    private static void rooms() {
        Due.says("SPACE of a ROOM. UNKNOWN.");
        TrickHouse one = Due.of("v00/7;t1000");
        Due.due("space(0)", one.space(0), 7);
        TrickHouse four = Due.of("v00/7189;t1000");
        Due.due("space(1)", four.space(1), 1);
        Due.due("space(3)", four.space(3), 9);
        for (int k : new int[] {LEAST_INT, -1, 1, 4, MOST_INT}) {
            Due.due("one ROOM, space(" + k + ")", one.space(k), TrickHouse.UNKNOWN);
        }
        for (int k : new int[] {LEAST_INT, -1, 4, MOST_INT}) {
            Due.due("four ROOMS, space(" + k + ")", four.space(k), TrickHouse.UNKNOWN);
        }
    }

    private static void cheer() {
        Due.says("GAIETY of an ARTICLE becomes v (0 .. 9): what it was (who is there stays as it is). UNKNOWN; OUTSIDE.");
        TrickHouse x = Due.of("v00/1;t1500;t1005");
        Due.send(x, 0, 1);
        for (int v : new int[] {LEAST_INT, -1, 10, MOST_INT}) {
            Due.due("cheer(0, " + v + ")", x.cheer(0, v), TrickHouse.OUTSIDE);
        }
        for (int a : new int[] {LEAST_INT, -1, 2, MOST_INT}) {
            Due.due("cheer(" + a + ", 0)", x.cheer(a, 0), TrickHouse.UNKNOWN);
            Due.due("cheer(" + a + ", 10)", x.cheer(a, 10), TrickHouse.UNKNOWN);
        }
        Due.due("GAIETY of refused ones", x.ofArticle(0, 2), 5);
        Due.due("cheer(0, 9)", x.cheer(0, 9), 5);
        Due.due("cheer(0, 0)", x.cheer(0, 0), 9);
        Due.due("cheer(0, 0) again", x.cheer(0, 0), 0);
        Due.due("1 hears less than its LONGING, and stays", x.there(), 3);
        Due.due("LAUGHTER", x.laughter(), 0);
        Due.due("GAIETY of the other", x.ofArticle(1, 2), 0);
    }

    private static void miss() {
        Due.says("LONGING of an ARTICLE becomes v (0 .. 49): what it was (who is there stays as it is). UNKNOWN; OUTSIDE.");
        TrickHouse x = Due.of("v00/1;t1500;t1005");
        Due.send(x, 0, 1);
        for (int v : new int[] {LEAST_INT, -1, 50, MOST_INT}) {
            Due.due("miss(0, " + v + ")", x.miss(0, v), TrickHouse.OUTSIDE);
        }
        for (int a : new int[] {LEAST_INT, -1, 2, MOST_INT}) {
            Due.due("miss(" + a + ", 0)", x.miss(a, 0), TrickHouse.UNKNOWN);
            Due.due("miss(" + a + ", 50)", x.miss(a, 50), TrickHouse.UNKNOWN);
        }
        Due.due("LONGING of refused ones", x.ofArticle(1, 3), 5);
        Due.due("miss(1, 0)", x.miss(1, 0), 5);
        Due.due("miss(1, 49)", x.miss(1, 49), 0);
        Due.due("miss(1, 49) again", x.miss(1, 49), 49);
        Due.due("1 hears less than its LONGING, and stays", x.there(), 3);
        Due.due("LONGING of the other", x.ofArticle(0, 3), 0);
    }

    private static void widen() {
        Due.says("SPACE of a ROOM becomes v (1 .. 9): what it was. UNKNOWN; OUTSIDE.");
        TrickHouse x = Due.of("v00/57;t1000");
        for (int v : new int[] {LEAST_INT, -1, 0, 10, MOST_INT}) {
            Due.due("widen(1, " + v + ")", x.widen(1, v), TrickHouse.OUTSIDE);
        }
        for (int k : new int[] {LEAST_INT, -1, 2, 3, 4, MOST_INT}) {
            Due.due("widen(" + k + ", 1)", x.widen(k, 1), TrickHouse.UNKNOWN);
            Due.due("widen(" + k + ", 0)", x.widen(k, 0), TrickHouse.UNKNOWN);
        }
        Due.due("SPACE of refused ones", x.space(1), 7);
        Due.due("widen(1, 9)", x.widen(1, 9), 7);
        Due.due("widen(1, 1)", x.widen(1, 1), 9);
        Due.due("space(1)", x.space(1), 1);
        Due.due("space(0)", x.space(0), 5);
        TrickHouse four = Due.of("v00/1234;t1000");
        Due.due("widen(3, 9)", four.widen(3, 9), 4);
        Due.due("widen(4, 9)", four.widen(4, 9), TrickHouse.UNKNOWN);
    }

    private static void shift() {
        Due.says("The house STANDS at a CORNER (0 .. 63) then: where it did. OUTSIDE; STATE: there is no CITY.");
        TrickHouse x = Due.of("v34/1;t1000");
        for (int corner : new int[] {LEAST_INT, -1, 64, MOST_INT}) {
            Due.due("shift(" + corner + ")", x.shift(corner), TrickHouse.OUTSIDE);
            Due.due("without a CITY", new TrickHouse().shift(corner), TrickHouse.OUTSIDE);
        }
        Due.due("where it stood all the while", x.many(3), 35);
        Due.due("shift(0)", x.shift(0), 35);
        Due.due("shift(63)", x.shift(63), 0);
        Due.due("shift(63) again", x.shift(63), 63);
        Due.due("many(3)", x.many(3), 63);
        TrickHouse none = new TrickHouse();
        Due.due("shift(0) without a CITY", none.shift(0), TrickHouse.STATE);
        Due.due("shift(63) without a CITY", none.shift(63), TrickHouse.STATE);
        Due.due("many(3) without a CITY", none.many(3), 0);
    }
}
