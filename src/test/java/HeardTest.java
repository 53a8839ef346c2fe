/** Promises 19 to 24: reading, back, gaieties, kinds, wheres, odds. */
public final class HeardTest {
    private static final long ALL = 4294967295L;

    public static void main(String[] args) {
        withoutCity();
        readingsAndBack();
        gaieties();
        kinds();
        wheres();
        readingsAreOfWhoIsThereNow();
        odds();
        oddsOfOthers();
        Due.end();
    }

    private static void withoutCity() {
        TrickHouse x = new TrickHouse();
        Due.due("reading(64, 0)", x.reading(64, 0), TrickHouse.OUTSIDE);
        Due.due("reading(0, 0)", x.reading(0, 0), TrickHouse.STATE);
        Due.due("back(0)", x.back(0), 0);
        Due.due("back(1)", x.back(1), TrickHouse.OUTSIDE);
        Due.due("gaieties(0)", x.gaieties(0), TrickHouse.UNKNOWN);
        Due.due("kinds(0)", x.kinds(0), TrickHouse.UNKNOWN);
        Due.due("wheres(2)", x.wheres(2), TrickHouse.LOST);
        Due.due("wheres(0)", x.wheres(0), TrickHouse.LOST);
        Due.due("odds(0, 0)", x.odds(0, 0), TrickHouse.LOST);
    }

    private static void readingsAndBack() {
        TrickHouse x = Due.of("v00/9;t1500");
        Due.due("reading(-1, 0)", x.reading(-1, 0), TrickHouse.OUTSIDE);
        Due.due("reading(0, -1)", x.reading(0, -1), TrickHouse.OUTSIDE);
        Due.due("reading(0, 100)", x.reading(0, 100), TrickHouse.OUTSIDE);
        for (int k = 0; k < 8; k++) {
            Due.due("reading " + k, x.reading(63, 99), k);
        }
        Due.due("a ninth", x.reading(0, 0), TrickHouse.FULL);
        Due.due("outside, ahead of full", x.reading(64, 0), TrickHouse.OUTSIDE);
        Due.due("many(4)", x.many(4), 8);
        Due.due("back(9)", x.back(9), TrickHouse.OUTSIDE);
        Due.due("back(-1)", x.back(-1), TrickHouse.OUTSIDE);
        Due.due("back(0)", x.back(0), 8);
        Due.due("back(3)", x.back(3), 5);
        Due.due("reading", x.reading(0, 0), 5);
        Due.due("back(6)", x.back(6), 0);
        Due.due("reading anew", x.reading(0, 0), 0);
    }

    private static void gaieties() {
        TrickHouse x = Due.of("v00/9;t1500;b1300;p1400;t1700");
        Due.due("gaieties(4)", x.gaieties(4), TrickHouse.UNKNOWN);
        Due.due("gaieties(-1)", x.gaieties(-1), TrickHouse.UNKNOWN);
        Due.due("without readings", x.gaieties(0), 1023);
        Due.send(x, 0, 1, 2);
        // They laugh 5, 2 and 8; two corners off 15 is heard as 13.
        Due.due("reading", x.reading(9, 13), 0);
        Due.due("a thing", x.gaieties(0), 1 << 5);
        Due.due("a beast", x.gaieties(1), 1 << 3);
        Due.due("a person", x.gaieties(2), 1 << 4);
        Due.due("one who is not there", x.gaieties(3), 1023);
        Due.due("back", x.back(1), 0);
        Due.due("reading", x.reading(9, 11), 0);
        Due.due("a beast, 0 at least", x.gaieties(1), 3);
        Due.due("a person", x.gaieties(2), 1 << 3);
        Due.due("no gaiety of one who is not there", x.gaieties(3), 0);
        Due.due("back", x.back(1), 0);
        Due.due("reading", x.reading(9, 10), 0);
        Due.due("a person's is even", x.gaieties(2), 0);
        Due.due("a thing", x.gaieties(0), 1 << 2);
        Due.due("nothing is changed", x.ofArticle(0, 2), 5);
        Due.due("reading that is not so by it", x.reading(0, 13), 1);
        Due.due("a thing, by both", x.gaieties(0), 0);
    }

    private static void kinds() {
        TrickHouse x = Due.of("v00/9;t1500;b1000;p1100");
        Due.due("kinds(3)", x.kinds(3), TrickHouse.UNKNOWN);
        Due.due("kinds(-1)", x.kinds(-1), TrickHouse.UNKNOWN);
        Due.due("without readings", x.kinds(0), 7);
        Due.send(x, 0, 1);
        Due.due("reading", x.reading(0, 4), 0);
        Due.due("a beast it would be", x.kinds(0), 2);
        Due.due("1 is of no kind by it", x.kinds(1), 0);
        Due.due("back", x.back(1), 0);
        Due.due("reading", x.reading(0, 5), 0);
        Due.due("the thing it is", x.kinds(0), 1);
        Due.due("whose laugh is 0 as any", x.kinds(1), 7);
        Due.due("who is not there", x.kinds(2), 7);
        Due.due("back", x.back(1), 0);
        Due.due("reading", x.reading(1, 9), 0);
        Due.due("a person it would be", x.kinds(0), 4);
        // Where it is too far to be heard, all kinds are alike.
        Due.due("back", x.back(1), 0);
        Due.due("reading", x.reading(63, 0), 0);
        Due.due("all kinds", x.kinds(0), 7);
        Due.due("nothing is changed", x.ofArticle(0, 0), 0);
    }

    private static void wheres() {
        TrickHouse x = Due.of("v43/9;t1500");
        Due.due("wheres(-1)", x.wheres(-1), TrickHouse.LOST);
        Due.due("wheres(2)", x.wheres(2), TrickHouse.LOST);
        Due.due("all of the one half", x.wheres(0), ALL);
        Due.due("all of the other", x.wheres(1), ALL);
        Due.send(x, 0);
        Due.due("reading", x.reading(28, 4), 0);
        Due.due("a step off 28", x.wheres(0), 1L << 20 | 1L << 27 | 1L << 29);
        Due.due("a step off 28, below", x.wheres(1), 1L << 4);
        Due.due("reading", x.reading(36, 5), 1);
        Due.due("not above", x.wheres(0), 0);
        Due.due("at 36", x.wheres(1), 1L << 4);
        Due.due("back", x.back(2), 0);
        Due.due("reading", x.reading(63, 5), 0);
        Due.due("at 63", x.wheres(1), 1L << 31);
        Due.due("reading", x.reading(63, 99), 1);
        Due.due("nowhere", x.wheres(1), 0);
        Due.due("nothing is changed", x.many(3), 28);
    }

    private static void readingsAreOfWhoIsThereNow() {
        TrickHouse x = Due.of("v00/9;t1500;t1200");
        Due.send(x, 0);
        Due.due("reading", x.reading(0, 5), 0);
        Due.due("as it is", x.gaieties(0), 1 << 5);
        Due.send(x, 1);
        Due.due("two laugh now", x.gaieties(0), 1 << 3);
        Due.due("the other", x.gaieties(1), 1);
        Due.due("cheer", x.cheer(0, 3), 5);
        Due.due("readings are so again", x.gaieties(1), 1 << 2);
        Due.due("the house is shifted", x.shift(1), 0);
        Due.due("so it is less", x.gaieties(1), 1 << 3);
    }

    private static void odds(TrickHouse x, int a, long upper, long lower) {
        Due.due("odds(" + a + ", 0)", x.odds(a, 0), upper);
        Due.due("odds(" + a + ", 1)", x.odds(a, 1), lower);
    }

    private static void odds() {
        TrickHouse x = Due.of("v00/9;t1300;t1304;t1301");
        Due.due("odds(3, 0)", x.odds(3, 0), TrickHouse.LOST);
        Due.due("odds(-1, 0)", x.odds(-1, 0), TrickHouse.LOST);
        Due.due("odds(0, 0), not there", x.odds(0, 0), TrickHouse.LOST);
        Due.send(x, 0);
        odds(x, 0, 1, 2);
        Due.send(x, 2);
        odds(x, 2, 1, 4);
        Due.send(x, 1);
        Due.due("odds(0, 2)", x.odds(0, 2), TrickHouse.LOST);
        Due.due("odds(0, -1)", x.odds(0, -1), TrickHouse.LOST);
        odds(x, 0, 1, 2);
        odds(x, 1, 1, 8);
        // 2 is left beside 0, or beside 0 and 1; beside 1 alone 1 comes away, then 2.
        odds(x, 2, 1, 4);
        Due.due("nothing is changed", x.there(), 7);
        Due.due("miss(1, 49)", x.miss(1, 49), 4);
        odds(x, 1, 0, 1);
    }

    private static void oddsOfOthers() {
        TrickHouse x = Due.of("v00/9;t1300;t1301;t1300;t1300");
        Due.send(x, 0, 1, 2, 3);
        // 1 is left unless it is called for, or all three others are.
        odds(x, 1, 7, 16);
        odds(x, 3, 1, 2);
        TrickHouse six = Due.of("v00/9;t1000;t1000;t1000;t1000;t1000;t1000");
        Due.send(six, 0, 1, 2, 3, 4, 5);
        odds(six, 5, 1, 2);
        Due.due("miss(5, 1)", six.miss(5, 1), 0);
        odds(six, 5, 0, 1);
        Due.due("cheer(0, 1)", six.cheer(0, 1), 0);
        odds(six, 5, 1, 4);
    }
}
