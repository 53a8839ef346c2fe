import java.util.List;

/**
 * REFUSALS and FAULTS: what is refused changes nothing but fault(), and that only of a call that names
 * FAULTS. Each call is made on one of two objects that were made alike, and both are looked through.
 */
public final class RefusalsTest {
    private static final int NULL = -11, CAST = -12, INDEX = -13, SIZE = -14;
    private static final int UNKNOWN = TrickHouse.UNKNOWN, OUTSIDE = TrickHouse.OUTSIDE, STATE = TrickHouse.STATE;
    private static final long LOST = TrickHouse.LOST;
    /** fault() ahead of each call, so that it can be seen whether a call wipes it. */
    private static final int AHEAD = 4;

    private interface Call {
        long of(TrickHouse x);
    }

    private interface Maker {
        TrickHouse made();
    }

    public static void main(String[] args) {
        Due.says("they change nothing (but fault(), of a call that names FAULTS)");
        refusedByCity();
        refusedByArticlesAndRooms();
        refusedByWhoIsThere();
        refusedByReadings();
        refusedBySheets();
        refusedWithoutCity();
        refusedWhenFull();
        Due.says("it answers -10 less it (LOST, where a long is answered, as for refusals) and changes nothing; fault() tells it");
        faults();
        faultsWithoutCity();
        Due.says("Of a call the first that is come to, in the order told");
        firstOfFaults();
        Due.says("(nothing is changed)");
        askedOnly();
        Due.end();
    }

    private static void rows(TrickHouse x) {
        Due.row(x, 0, 0, Due.codes(Due.SIX));
        Due.row(x, 1, 2, 3, 1, 0, 1, 6, 0, 0, 2);
        Due.row(x, 2, 1, 1, 2, 300);
    }

    private static TrickHouse withoutCity() {
        TrickHouse x = new TrickHouse();
        rows(x);
        Due.due("a fault ahead", x.sheet(3, 0, -1), SIZE);
        return x;
    }

    /** 0, 3 and 5 are there and laugh 6, 0 and 18; the house stands at 30. */
    private static TrickHouse withCity() {
        TrickHouse x = new TrickHouse();
        rows(x);
        Due.due("city", x.city(0, 0, 0, 42), 6);
        Due.due("cheer", x.cheer(0, 6), 5);
        Due.due("miss", x.miss(5, 0), 2);
        Due.due("widen", x.widen(1, 5), 4);
        Due.due("shift", x.shift(30), 21);
        Due.send(x, 3, 5, 0);
        Due.due("reading", x.reading(30, 24), 0);
        Due.due("reading", x.reading(31, 23), 1);
        Due.due("tell", x.tell(2), 106);
        Due.due("a fault ahead", x.sheet(3, 0, -1), SIZE);
        return x;
    }

    private static TrickHouse full() {
        TrickHouse x = withCity();
        for (int k = 2; k < 8; k++) {
            Due.due("reading", x.reading(30, 24), k);
        }
        return x;
    }

    private static void same(Maker maker, String what, Call call, long answer, int fault) {
        TrickHouse x = maker.made();
        Due.answers(x, what, call.of(x), answer, fault);
        sameSeen(maker, what, x);
    }

    private static void sameSeen(Maker maker, String what, TrickHouse x) {
        List<Long> got = Seen.of(x);
        List<Long> due = Seen.of(maker.made());
        Due.due(what + " changed nothing: " + got + " for " + due, got.equals(due) ? 1 : 0, 1);
    }

    /** Of a call that names FAULTS. */
    private static void wiping(String what, Call call, long answer) {
        same(RefusalsTest::withCity, what, call, answer, 0);
    }

    private static void keeping(String what, Call call, long answer) {
        same(RefusalsTest::withCity, what, call, answer, AHEAD);
    }

    private static void refusedByCity() {
        wiping("city, SHEET 4", x -> x.city(4, 0, 0, 42), UNKNOWN);
        wiping("city, LANE 3", x -> x.city(0, 3, 0, 42), OUTSIDE);
        wiping("city of no codes", x -> x.city(0, 0, 0, 0), -100);
        wiping("city from 1 on", x -> x.city(0, 0, 1, 41), -100);
        wiping("city that ends too soon", x -> x.city(0, 0, 0, 41), -141);
        wiping("city of shorts", x -> x.city(2, 1, 0, 3), -100);
        wiping("city of ints", x -> x.city(1, 2, 0, 8), -100);
    }

    private static void refusedByArticlesAndRooms() {
        keeping("ofArticle(6, 0)", x -> x.ofArticle(6, 0), UNKNOWN);
        keeping("ofArticle(0, 6)", x -> x.ofArticle(0, 6), OUTSIDE);
        keeping("space(2)", x -> x.space(2), UNKNOWN);
        keeping("cheer(6, 0)", x -> x.cheer(6, 0), UNKNOWN);
        keeping("cheer(0, 10)", x -> x.cheer(0, 10), OUTSIDE);
        keeping("cheer(0, -1)", x -> x.cheer(0, -1), OUTSIDE);
        keeping("miss(6, 0)", x -> x.miss(6, 0), UNKNOWN);
        keeping("miss(0, 50)", x -> x.miss(0, 50), OUTSIDE);
        keeping("miss(0, -1)", x -> x.miss(0, -1), OUTSIDE);
        keeping("widen(2, 1)", x -> x.widen(2, 1), UNKNOWN);
        keeping("widen(0, 0)", x -> x.widen(0, 0), OUTSIDE);
        keeping("widen(0, 10)", x -> x.widen(0, 10), OUTSIDE);
        keeping("shift(-1)", x -> x.shift(-1), OUTSIDE);
        keeping("shift(64)", x -> x.shift(64), OUTSIDE);
        keeping("tell(6)", x -> x.tell(6), UNKNOWN);
        keeping("announce(6)", x -> x.announce(6), UNKNOWN);
        wiping("as(6, 0)", x -> x.as(6, 0), UNKNOWN);
        wiping("as(0, 3)", x -> x.as(0, 3), OUTSIDE);
        keeping("many(5)", x -> x.many(5), OUTSIDE);
    }

    private static void refusedByWhoIsThere() {
        keeping("company(64)", x -> x.company(64), OUTSIDE);
        keeping("send(6)", x -> x.send(6), UNKNOWN);
        keeping("send(3), there", x -> x.send(3), STATE);
        keeping("call(6)", x -> x.call(6), UNKNOWN);
        keeping("call(1), not there", x -> x.call(1), STATE);
        keeping("heard(64)", x -> x.heard(64), OUTSIDE);
        wiping("year, SHEET 4", x -> x.year(4, 2, 0, 1, 0), UNKNOWN);
        wiping("year, LANE 3", x -> x.year(1, 3, 0, 1, 0), OUTSIDE);
        wiping("year, n -1", x -> x.year(1, 2, 0, -1, 0), OUTSIDE);
        wiping("year, n 21", x -> x.year(1, 2, 0, 21, 0), OUTSIDE);
        wiping("year, what 6", x -> x.year(1, 2, 0, 1, 6), OUTSIDE);
        wiping("year, third pair no ARTICLE", x -> x.year(1, 2, 0, 3, 0), UNKNOWN);
        wiping("year, a pair of neither", x -> x.year(1, 2, 6, 1, 0), OUTSIDE);
        keeping("packs(64, 0)", x -> x.packs(64, 0), OUTSIDE);
        keeping("packs(0, 6)", x -> x.packs(0, 6), OUTSIDE);
        keeping("fetch(64)", x -> x.fetch(64), OUTSIDE);
        keeping("fetch(2), not there", x -> x.fetch(2), STATE);
        keeping("lure(6)", x -> x.lure(6), UNKNOWN);
        keeping("lure(1), not there", x -> x.lure(1), STATE);
    }

    private static void refusedByReadings() {
        keeping("reading(64, 0)", x -> x.reading(64, 0), OUTSIDE);
        keeping("reading(0, 100)", x -> x.reading(0, 100), OUTSIDE);
        keeping("back(3) of 2", x -> x.back(3), OUTSIDE);
        keeping("back(-1)", x -> x.back(-1), OUTSIDE);
        keeping("gaieties(6)", x -> x.gaieties(6), UNKNOWN);
        keeping("kinds(6)", x -> x.kinds(6), UNKNOWN);
        keeping("wheres(2)", x -> x.wheres(2), LOST);
        keeping("odds(6, 0)", x -> x.odds(6, 0), LOST);
        keeping("odds(0, 2)", x -> x.odds(0, 2), LOST);
        keeping("odds(1, 0), not there", x -> x.odds(1, 0), LOST);
    }

    private static void refusedBySheets() {
        wiping("sheet(4, 0, 1)", x -> x.sheet(4, 0, 1), UNKNOWN);
        wiping("sheet(0, 3, 1)", x -> x.sheet(0, 3, 1), OUTSIDE);
        wiping("sheet(0, 0, 61)", x -> x.sheet(0, 0, 61), OUTSIDE);
        keeping("lose(4)", x -> x.lose(4), UNKNOWN);
        keeping("lose(3), that has nothing", x -> x.lose(3), 0);
        wiping("put(4, 0, 1)", x -> x.put(4, 0, 1), UNKNOWN);
        wiping("cell(4, 0, 0)", x -> x.cell(4, 0, 0), LOST);
        wiping("cell(0, 0, 3)", x -> x.cell(0, 0, 3), LOST);
        wiping("copy from 4", x -> x.copy(4, 0, 0, 0, 1), UNKNOWN);
        wiping("copy to 4", x -> x.copy(0, 0, 4, 0, 1), UNKNOWN);
    }

    private static void stateless(String what, Call call, long answer, int fault) {
        same(RefusalsTest::withoutCity, what, call, answer, fault);
    }

    private static void refusedWithoutCity() {
        stateless("ofArticle", x -> x.ofArticle(0, 0), UNKNOWN, AHEAD);
        stateless("space", x -> x.space(0), UNKNOWN, AHEAD);
        stateless("cheer", x -> x.cheer(0, 0), UNKNOWN, AHEAD);
        stateless("miss", x -> x.miss(0, 0), UNKNOWN, AHEAD);
        stateless("widen", x -> x.widen(0, 1), UNKNOWN, AHEAD);
        stateless("shift", x -> x.shift(1), STATE, AHEAD);
        stateless("there", x -> x.there(), STATE, AHEAD);
        stateless("company", x -> x.company(0), STATE, AHEAD);
        stateless("send", x -> x.send(0), UNKNOWN, AHEAD);
        stateless("call", x -> x.call(0), UNKNOWN, AHEAD);
        stateless("laughter", x -> x.laughter(), STATE, AHEAD);
        stateless("heard", x -> x.heard(0), STATE, AHEAD);
        stateless("year", x -> x.year(1, 2, 0, 1, 0), STATE, 0);
        stateless("packs", x -> x.packs(0, 0), STATE, AHEAD);
        stateless("fetch", x -> x.fetch(0), STATE, AHEAD);
        stateless("lure", x -> x.lure(0), UNKNOWN, AHEAD);
        stateless("reading", x -> x.reading(0, 0), STATE, AHEAD);
        stateless("back", x -> x.back(1), OUTSIDE, AHEAD);
        stateless("gaieties", x -> x.gaieties(0), UNKNOWN, AHEAD);
        stateless("kinds", x -> x.kinds(0), UNKNOWN, AHEAD);
        stateless("wheres", x -> x.wheres(0), LOST, AHEAD);
        stateless("odds", x -> x.odds(0, 0), LOST, AHEAD);
        stateless("tell", x -> x.tell(0), UNKNOWN, AHEAD);
        stateless("announce", x -> x.announce(0), UNKNOWN, AHEAD);
        stateless("as", x -> x.as(0, 0), UNKNOWN, 0);
    }

    private static void refusedWhenFull() {
        same(RefusalsTest::full, "reading, FULL", x -> x.reading(0, 0), TrickHouse.FULL, AHEAD);
        same(RefusalsTest::full, "reading, OUTSIDE", x -> x.reading(64, 0), OUTSIDE, AHEAD);
        same(RefusalsTest::full, "back(9)", x -> x.back(9), OUTSIDE, AHEAD);
    }

    private static void fails(Maker maker, String what, Call call, int due) {
        same(maker, what, call, due, -10 - due);
    }

    private static void sheetFaults(Maker maker) {
        fails(maker, "city, CAST", x -> x.city(0, 1, 0, 42), CAST);
        fails(maker, "city, NULL", x -> x.city(3, 0, 0, 42), NULL);
        fails(maker, "city, SIZE", x -> x.city(0, 0, 0, -1), SIZE);
        fails(maker, "city, INDEX", x -> x.city(0, 0, 0, 43), INDEX);
        fails(maker, "year, CAST", x -> x.year(1, 0, 0, 1, 0), CAST);
        fails(maker, "year, NULL", x -> x.year(3, 0, 0, 1, 0), NULL);
        fails(maker, "year, INDEX", x -> x.year(1, 2, 0, 5, 0), INDEX);
        fails(maker, "sheet, SIZE", x -> x.sheet(0, 0, -1), SIZE);
        fails(maker, "put, NULL", x -> x.put(3, 0, 1), NULL);
        fails(maker, "put, INDEX", x -> x.put(0, 42, 1), INDEX);
        fails(maker, "copy, NULL (the first)", x -> x.copy(3, 0, 0, 0, 1), NULL);
        fails(maker, "copy, NULL (the other)", x -> x.copy(0, 0, 3, 0, 1), NULL);
        fails(maker, "copy, CAST", x -> x.copy(0, 0, 1, 0, 1), CAST);
        fails(maker, "copy, INDEX: i", x -> x.copy(1, 8, 1, 0, 1), INDEX);
        fails(maker, "copy, INDEX: j", x -> x.copy(1, 0, 1, 8, 1), INDEX);
        fails(maker, "copy, INDEX: n", x -> x.copy(1, 0, 1, 0, -1), INDEX);
        fails(maker, "copy, INDEX: partly", x -> x.copy(1, 0, 1, 4, 5), INDEX);
        same(maker, "cell, CAST", x -> x.cell(0, 0, 2), LOST, 2);
        same(maker, "cell, NULL", x -> x.cell(3, 0, 2), LOST, 1);
        same(maker, "cell, INDEX", x -> x.cell(0, 42, 0), LOST, 3);
    }

    private static void faults() {
        sheetFaults(RefusalsTest::withCity);
        fails(RefusalsTest::withCity, "as, CAST", x -> x.as(1, 2), CAST);
    }

    private static void faultsWithoutCity() {
        sheetFaults(RefusalsTest::withoutCity);
    }

    /** Calls with all that is wrong from one fault on. */
    private static void firstOfFaults() {
        Maker maker = RefusalsTest::withCity;
        fails(maker, "city: CAST, SIZE, INDEX", x -> x.city(0, 1, -1, -1), CAST);
        fails(maker, "city: NULL, SIZE, INDEX", x -> x.city(3, 1, -1, -1), NULL);
        fails(maker, "city: SIZE, INDEX", x -> x.city(0, 0, -1, -1), SIZE);
        fails(maker, "city: SIZE, INDEX behind", x -> x.city(0, 0, 43, -1), SIZE);
        fails(maker, "year: CAST, INDEX", x -> x.year(1, 0, -1, 20, 0), CAST);
        fails(maker, "year: NULL, INDEX", x -> x.year(3, 0, -1, 20, 0), NULL);
        fails(maker, "year: INDEX, pairs that are none", x -> x.year(1, 2, 4, 3, 0), INDEX);
        fails(maker, "put: NULL, INDEX", x -> x.put(3, -1, 0), NULL);
        fails(maker, "copy: NULL, INDEX", x -> x.copy(3, -1, 0, -1, -1), NULL);
        fails(maker, "copy: NULL of the other, INDEX", x -> x.copy(0, -1, 3, -1, -1), NULL);
        fails(maker, "copy: CAST, INDEX", x -> x.copy(0, -1, 1, -1, -1), CAST);
        same(maker, "cell: CAST, INDEX", x -> x.cell(0, -1, 1), LOST, 2);
        same(maker, "cell: NULL, INDEX", x -> x.cell(3, -1, 1), LOST, 1);
        wiping("city: UNKNOWN, OUTSIDE, FAULTS", x -> x.city(4, 3, -1, -1), UNKNOWN);
        wiping("city: OUTSIDE, FAULTS", x -> x.city(3, 3, -1, -1), OUTSIDE);
        wiping("year: UNKNOWN, OUTSIDE, FAULTS", x -> x.year(4, 3, -1, 21, 6), UNKNOWN);
        wiping("year: OUTSIDE, FAULTS", x -> x.year(3, 2, -1, 21, 0), OUTSIDE);
        wiping("sheet: UNKNOWN, OUTSIDE, SIZE", x -> x.sheet(4, 3, -1), UNKNOWN);
        wiping("sheet: OUTSIDE, SIZE", x -> x.sheet(0, 3, -1), OUTSIDE);
        wiping("put: UNKNOWN, INDEX", x -> x.put(4, -1, 0), UNKNOWN);
        wiping("copy: UNKNOWN, NULL, INDEX", x -> x.copy(3, -1, 4, -1, -1), UNKNOWN);
        wiping("as: UNKNOWN, OUTSIDE", x -> x.as(6, 3), UNKNOWN);
    }

    private static void asks(String what, Call call) {
        TrickHouse x = withCity();
        long first = call.of(x);
        Due.due(what + " again", call.of(x), first);
        sameSeen(RefusalsTest::withCity, what, x);
    }

    /** Calls that answer, and are no more than asked. */
    private static void askedOnly() {
        asks("ofArticle", x -> x.ofArticle(0, 4));
        asks("space", x -> x.space(0));
        asks("there", x -> x.there());
        asks("company", x -> x.company(63));
        asks("laughter", x -> x.laughter());
        asks("heard", x -> x.heard(0));
        asks("year", x -> x.year(1, 2, 0, 2, 2));
        asks("year that can't be", x -> x.year(1, 2, 2, 1, 1) + x.year(1, 2, 0, 1, 0));
        asks("packs", x -> x.packs(63, -1) + x.packs(7, 0));
        asks("fetch", x -> x.fetch(41));
        asks("lure", x -> x.lure(0));
        asks("back of none", x -> x.back(0));
        asks("gaieties", x -> x.gaieties(0));
        asks("kinds", x -> x.kinds(5));
        asks("wheres", x -> x.wheres(0) + x.wheres(1));
        asks("odds", x -> x.odds(0, 0) + x.odds(0, 1));
        asks("cell", x -> x.cell(2, 2, 1));
        asks("copy of none", x -> x.copy(0, 42, 0, 0, 0));
        asks("as", x -> x.as(5, 1));
        asks("trace", x -> x.trace());
        asks("fault", x -> x.fault());
        asks("many", x -> x.many(2));
    }
}
