/** Promises 1 to 8: a new object, city, ofArticle, space, cheer, miss, widen, shift. */
public final class CityTest {
    private static final int NULL = -11, CAST = -12, INDEX = -13, SIZE = -14;

    public static void main(String[] args) {
        newObject();
        firstFaults();
        mostAndLeast();
        cityOfCells();
        cityRefusals();
        cityMakesAllAnew();
        wrongCityChangesNothing();
        articles();
        roomsAndCorner();
        Due.end();
    }

    private static void newObject() {
        TrickHouse x = new TrickHouse();
        for (int what = 0; what <= 4; what++) {
            Due.due("new many(" + what + ")", x.many(what), 0);
        }
        for (int k = 0; k < 4; k++) {
            Due.due("new lose(" + k + ")", x.lose(k), 0);
        }
        Due.due("new there()", x.there(), TrickHouse.STATE);
        Due.due("new laughter()", x.laughter(), TrickHouse.STATE);
        Due.due("new ofArticle(0, 0)", x.ofArticle(0, 0), TrickHouse.UNKNOWN);
        Due.due("new space(0)", x.space(0), TrickHouse.UNKNOWN);
        Due.due("new trace()", x.trace(), 0);
        Due.due("new fault()", x.fault(), 0);
    }

    private static void fault(String text, int place) {
        TrickHouse x = new TrickHouse();
        Due.due("city of " + text, Due.taken(x, text), -100 - place);
        Due.due("fault() after " + text, x.fault(), 0);
        Due.due("many(0) after " + text, x.many(0), 0);
    }

    private static void firstFaults() {
        fault("", 0);
        fault("w", 0);
        fault("V00/1;t1000", 0);
        fault("v80/1;t1000", 1);
        fault("v/", 1);
        fault("v08/1;t1000", 2);
        fault("v00", 3);
        fault("v00;", 3);
        fault("v00/", 4);
        fault("v00/0", 4);
        fault("v00/;t1000", 4);
        fault("v00/1", 5);
        fault("v00/10;t1000", 5);
        fault("v00/1234", 8);
        fault("v00/12345;t1000", 8);
        fault("v00/1;", 6);
        fault("v00/1;x1000", 6);
        fault("v00/1;v1000", 6);
        fault("v00/1;t0000", 7);
        fault("v00/1;t1/00", 8);
        fault("v00/1;t1:00", 8);
        fault("v00/1;t1050", 9);
        fault("v00/1;t104", 10);
        fault("v00/1;t104;", 10);
        fault("v00/1;t10491", 11);
        fault("v00/1;t1049;", 12);
        fault("v00/1;t1049;b", 13);
        fault("v00/1;t1049;b1", 14);
        fault("v00/1;t1000;t1000;t1000;t1000;t1000;t1000;", 41);
        fault("v00/1;t1000;t1000;t1000;t1000;t1000;t10001", 41);
        fault("v00/1234;t1000;t1000;t1000;t1000;t1000;t1000;", 44);
        fault("v00/1234;t1000;t1000;t1000;t1000;t1000;t100", 43);
    }

    private static void mostAndLeast() {
        TrickHouse least = Due.of("v00/1;t1000");
        Due.due("corner of v00", least.many(3), 0);
        Due.due("rooms of /1", least.many(1), 1);
        TrickHouse most = Due.of("v77/9999;p9949;p9949;p9949;p9949;p9949;p9949");
        Due.due("corner of v77", most.many(3), 63);
        Due.due("rooms of /9999", most.many(1), 4);
        Due.due("articles of six", most.many(0), 6);
        Due.due("longing 49", most.ofArticle(5, 3), 49);
        TrickHouse x = Due.of("v71/1;t1000");
        Due.due("column 7, row 1", x.many(3), 15);
    }

    private static void cityOfCells() {
        for (int lane = 0; lane <= 2; lane++) {
            TrickHouse x = new TrickHouse();
            Due.row(x, 3, lane, Due.codes("xxxv34/5;b2307zz"));
            Due.due("city from 3 on", x.city(3, lane, 3, 11), 1);
            Due.due("corner", x.many(3), 35);
            Due.due("space", x.space(0), 5);
            Due.due("longing", x.ofArticle(0, 3), 7);
            Due.due("place of a fault is the text's", x.city(3, lane, 3, 12), -111);
            Due.due("none taken, at the end", x.city(3, lane, 16, 0), -100);
        }
        TrickHouse x = new TrickHouse();
        Due.row(x, 0, 2, 118 + 256);
        Due.due("an int is not cut as it is read", x.city(0, 2, 0, 1), -100);
        Due.row(x, 0, 0, 118 + 256);
        Due.due("a byte is cut as it comes", x.city(0, 0, 0, 1), -101);
        Due.row(x, 0, 0, -118);
        Due.due("a code below 0", x.city(0, 0, 0, 1), -100);
    }

    private static void cityRefusals() {
        TrickHouse x = new TrickHouse();
        Due.row(x, 0, 1, Due.codes("v34/5;b2307"));
        Due.due("sheet -1", x.city(-1, 9, -1, -1), TrickHouse.UNKNOWN);
        Due.due("sheet 4", x.city(4, 1, 0, 11), TrickHouse.UNKNOWN);
        Due.due("lane -1", x.city(0, -1, 0, 11), TrickHouse.OUTSIDE);
        Due.due("lane 3", x.city(1, 3, 0, 11), TrickHouse.OUTSIDE);
        answers(x, "another lane", x.city(0, 0, -1, -1), CAST);
        answers(x, "nothing", x.city(1, 0, -1, -1), NULL);
        answers(x, "n -1", x.city(0, 1, -1, -1), SIZE);
        answers(x, "n least", x.city(0, 1, 0, Integer.MIN_VALUE), SIZE);
        answers(x, "n 12", x.city(0, 1, 0, 12), INDEX);
        answers(x, "i 1", x.city(0, 1, 1, 11), INDEX);
        answers(x, "i -1", x.city(0, 1, -1, 0), INDEX);
        answers(x, "i 12", x.city(0, 1, 12, 0), INDEX);
        answers(x, "i and n wrap", x.city(0, 1, 2, Integer.MAX_VALUE), INDEX);
        answers(x, "i most", x.city(0, 1, Integer.MAX_VALUE, 1), INDEX);
        Due.due("no city of all these", x.many(0), 0);
        Due.due("as told", x.city(0, 1, 0, 11), 1);
        Due.due("fault() behind it", x.fault(), 0);
    }

    private static void answers(TrickHouse x, String what, int got, int want) {
        Due.due(what, got, want);
        Due.due("fault() of " + what, x.fault(), -10 - want);
    }

    private static void cityMakesAllAnew() {
        TrickHouse x = Due.of(Due.SIX);
        Due.send(x, 3);
        Due.due("reading", x.reading(0, 0), 0);
        Due.due("tell", x.tell(3), 0);
        Due.due("another city", Due.taken(x, "v01/7;t1300"), 1);
        Due.due("nobody is there", x.there(), 0);
        Due.due("no readings", x.many(4), 0);
        Due.due("corner", x.many(3), 8);
        Due.due("one room", x.space(1), TrickHouse.UNKNOWN);
        Due.due("one article", x.ofArticle(1, 0), TrickHouse.UNKNOWN);
        Due.due("trace is not the city's", x.trace(), 1);
    }

    private static void wrongCityChangesNothing() {
        TrickHouse x = Due.of(Due.SIX);
        Due.send(x, 3);
        Due.due("reading", x.reading(0, 0), 0);
        Due.due("a wrong text", Due.taken(x, "v01/7;t1300;"), -112);
        Due.due("articles", x.many(0), 6);
        Due.due("rooms", x.many(1), 2);
        Due.due("who is there", x.there(), 8);
        Due.due("corner", x.many(3), 21);
        Due.due("readings", x.many(4), 1);
        Due.due("gaiety", x.ofArticle(0, 2), 5);
    }

    private static void articles() {
        TrickHouse x = Due.of("v52/64;t2503;b3408;p1310;b4000");
        int[][] due = {{0, 2, 5, 3, 5, 0}, {1, 3, 4, 8, 3, 0}, {2, 1, 3, 10, 6, 0}, {1, 4, 0, 0, 0, 0}};
        for (int a = 0; a < due.length; a++) {
            for (int what = 0; what < 6; what++) {
                Due.due("ofArticle(" + a + ", " + what + ")", x.ofArticle(a, what), due[a][what]);
            }
        }
        Due.due("ofArticle(4, 6)", x.ofArticle(4, 6), TrickHouse.UNKNOWN);
        Due.due("ofArticle(-1, 0)", x.ofArticle(-1, 0), TrickHouse.UNKNOWN);
        Due.due("ofArticle(0, 6)", x.ofArticle(0, 6), TrickHouse.OUTSIDE);
        Due.due("ofArticle(0, -1)", x.ofArticle(0, -1), TrickHouse.OUTSIDE);
        Due.due("cheer(4, 10)", x.cheer(4, 10), TrickHouse.UNKNOWN);
        Due.due("cheer(-1, 1)", x.cheer(-1, 1), TrickHouse.UNKNOWN);
        Due.due("cheer(0, 10)", x.cheer(0, 10), TrickHouse.OUTSIDE);
        Due.due("cheer(0, -1)", x.cheer(0, -1), TrickHouse.OUTSIDE);
        Due.due("refused cheer", x.ofArticle(0, 2), 5);
        Due.due("cheer(0, 9)", x.cheer(0, 9), 5);
        Due.due("cheer(0, 0)", x.cheer(0, 0), 9);
        Due.due("cheer(1, 1)", x.cheer(1, 1), 4);
        Due.due("laugh of a beast of 1", x.ofArticle(1, 4), 0);
        Due.due("cheer(2, 9)", x.cheer(2, 9), 3);
        Due.due("laugh of a person of 9", x.ofArticle(2, 4), 18);
        Due.due("miss(4, 50)", x.miss(4, 50), TrickHouse.UNKNOWN);
        Due.due("miss(0, 50)", x.miss(0, 50), TrickHouse.OUTSIDE);
        Due.due("miss(0, -1)", x.miss(0, -1), TrickHouse.OUTSIDE);
        Due.due("miss(0, 49)", x.miss(0, 49), 3);
        Due.due("miss(0, 0)", x.miss(0, 0), 49);
        Due.due("send(3)", x.send(3), 0);
        Due.due("it is there", x.ofArticle(3, 5), 1);
        Due.due("miss(3, 1)", x.miss(3, 1), 0);
        Due.due("it stays", x.there(), 8);
    }

    private static void roomsAndCorner() {
        TrickHouse x = Due.of("v52/64;t2503");
        Due.due("space(0)", x.space(0), 6);
        Due.due("space(1)", x.space(1), 4);
        Due.due("space(2)", x.space(2), TrickHouse.UNKNOWN);
        Due.due("space(-1)", x.space(-1), TrickHouse.UNKNOWN);
        Due.due("widen(2, 0)", x.widen(2, 0), TrickHouse.UNKNOWN);
        Due.due("widen(-1, 1)", x.widen(-1, 1), TrickHouse.UNKNOWN);
        Due.due("widen(0, 0)", x.widen(0, 0), TrickHouse.OUTSIDE);
        Due.due("widen(0, 10)", x.widen(0, 10), TrickHouse.OUTSIDE);
        Due.due("widen(0, 9)", x.widen(0, 9), 6);
        Due.due("widen(0, 1)", x.widen(0, 1), 9);
        Due.due("space(0) then", x.space(0), 1);
        Due.due("shift(-1)", x.shift(-1), TrickHouse.OUTSIDE);
        Due.due("shift(64)", x.shift(64), TrickHouse.OUTSIDE);
        Due.due("shift(63)", x.shift(63), 21);
        Due.due("shift(0)", x.shift(0), 63);
        Due.due("many(3)", x.many(3), 0);
        Due.due("new shift(64)", new TrickHouse().shift(64), TrickHouse.OUTSIDE);
        Due.due("new shift(0)", new TrickHouse().shift(0), TrickHouse.STATE);
        Due.due("new widen(0, 1)", new TrickHouse().widen(0, 1), TrickHouse.UNKNOWN);
    }
}
