/** Promises 16 to 18, sentence by sentence at its edges; "Terms", part 3. */
public final class CallsEdgesTest {
    private static final int LEAST_INT = Integer.MIN_VALUE, MOST_INT = Integer.MAX_VALUE;
    private static final int[] NO_SETS = {LEAST_INT, -1, 64, 127, MOST_INT};
    private static final int NONE = TrickHouse.NONE;

    /** Each longs for nothing, so none comes but by a CALL for itself. */
    private static final String EASY = "v00/9999;t1100;t1100;t1100;t1100;t1100;t1100";
    /** 0 holds 1 and 2; 3 longs for nothing. */
    private static final String HELD = "v00/9;t1900;t1009;t1009;t1000";

    public static void main(String[] args) {
        packsOfNobody();
        packsOfAll();
        packsThatNoRoomsHold();
        packsJustFull();
        packsFirst();
        packsRefusals();
        fetchOfNobody();
        fetchOfAll();
        fetchFewest();
        fetchRefusals();
        lure();
        lureOfNone();
        lureRefusals();
        Due.end();
    }

    private static TrickHouse allThere(String text) {
        TrickHouse x = Due.of(text);
        for (int a = 0; a < x.many(0); a++) {
            Due.send(x, a);
        }
        return x;
    }

    private static void packs(TrickHouse x, int set, int ways, int... rooms) {
        Due.due("packs(" + set + ", -1)", x.packs(set, -1), ways);
        for (int k = 0; k < 6; k++) {
            Due.due("packs(" + set + ", " + k + ")", x.packs(set, k), k < rooms.length ? rooms[k] : NONE);
        }
    }

    // ---- PACKS

    private static void packsOfNobody() {
        Due.says("how many (k -1; of nobody 1)");
        packs(Due.of("v00/1;t9000"), 0, 1);
        packs(Due.of(EASY), 0, 1);
        packs(allThere(EASY), 0, 1);
    }

    private static void packsOfAll() {
        Due.says("ways to give each of it one of the ROOMS");
        packs(Due.of(EASY), 63, 4096, 0, 0, 0, 0, 0, 0);
        packs(Due.of("v00/1;t1000"), 1, 1, 0);
        packs(Due.of("v00/9;t1000;t1000;t1000;t1000;t1000;t1000"), 63, 1, 0, 0, 0, 0, 0, 0);
        packs(Due.of("v00/9999;t1000"), 1, 4, 0);
        // 6! / (2! 2! 1! 1!) ways to fill 2, 2, 1 and 1 just so.
        packs(Due.of("v00/2211;t1000;t1000;t1000;t1000;t1000;t1000"), 63, 180, 0, 0, 1, 1, 2, 3);
        Due.says("PACKS of a set of ARTICLES");
        packs(allThere(EASY), 63, 4096, 0, 0, 0, 0, 0, 0);
    }

    private static void packsThatNoRoomsHold() {
        Due.says("NONE: it is not of the set, there is none.");
        TrickHouse one = Due.of("v00/8;t9000");
        packs(one, 1, 0);
        TrickHouse x = Due.of("v00/8888;t1000;t9000");
        packs(x, 1, 4, 0);
        packs(x, 2, 0);
        packs(x, 3, 0);
        TrickHouse six = Due.of("v00/1111;t1000;t1000;t1000;t1000;t1000;t1000");
        packs(six, 15, 24, 0, 1, 2, 3);
        packs(six, 31, 0);
        packs(six, 63, 0);
        packs(six, 32, 4, NONE, NONE, NONE, NONE, NONE, 0);
        Due.due("widen(3, 3)", six.widen(3, 3), 1);
        // Three of six in ROOM 3, the others one in each: 6! / 3!.
        packs(six, 63, 120, 0, 1, 2, 3, 3, 3);
    }

    private static void packsJustFull() {
        Due.says("so that in each ROOM their BULKS are together no more than its SPACE");
        TrickHouse x = Due.of("v00/9;t9000;t5000;t4000;t1000");
        packs(x, 1, 1, 0);
        packs(x, 6, 1, NONE, 0, 0);
        packs(x, 14, 0);
        packs(x, 9, 0);
        Due.due("widen(0, 8)", x.widen(0, 8), 9);
        packs(x, 1, 0);
        packs(x, 6, 0);
        packs(x, 10, 1, NONE, 0, NONE, 0);
        TrickHouse y = Due.of("v00/99;t9000;t9000;t9000");
        packs(y, 3, 2, 0, 1);
        packs(y, 7, 0);
    }

    private static void packsFirst() {
        Due.says("the first as a row (of the ROOMS of those ARTICLES, by their numbers)");
        packs(Due.of("v00/54;t4000;t5000"), 3, 1, 1, 0);
        packs(Due.of("v00/45;t4000;t5000"), 3, 1, 0, 1);
        packs(Due.of("v00/55;t2000;t3000;t5000"), 7, 2, 0, 0, 1);
        packs(Due.of("v00/55;t3000;t5000;t2000"), 7, 2, 0, 1, 0);
        packs(Due.of("v00/1119;t2000;t9000;t2000"), 5, 1, 3, NONE, 3);
        packs(Due.of("v00/1119;t2000;t9000;t2000"), 2, 1, NONE, 3);
    }

    private static void packsRefusals() {
        Due.says("the ROOM of ARTICLE k (0 .. 5) in the first one");
        TrickHouse one = Due.of("v00/9;t1000");
        Due.due("packs(1, 5) of one ARTICLE", one.packs(1, 5), NONE);
        Due.says("STATE: there is no CITY; OUTSIDE: set (of ARTICLES that there are), k.");
        TrickHouse six = Due.of(EASY);
        for (int set : NO_SETS) {
            Due.due("packs(" + set + ", -1)", six.packs(set, -1), TrickHouse.OUTSIDE);
            Due.due("packs(" + set + ", 0)", six.packs(set, 0), TrickHouse.OUTSIDE);
            Due.due("packs(" + set + ", 0) without a CITY", new TrickHouse().packs(set, 0), TrickHouse.STATE);
        }
        Due.due("packs(2, -1) of one ARTICLE", one.packs(2, -1), TrickHouse.OUTSIDE);
        for (int k : new int[] {LEAST_INT, -2, 6, MOST_INT}) {
            Due.due("packs(63, " + k + ")", six.packs(63, k), TrickHouse.OUTSIDE);
            Due.due("packs(0, " + k + ")", six.packs(0, k), TrickHouse.OUTSIDE);
            Due.due("packs(0, " + k + ") without a CITY", new TrickHouse().packs(0, k), TrickHouse.STATE);
        }
        Due.due("packs(0, -1) without a CITY", new TrickHouse().packs(0, -1), TrickHouse.STATE);
    }

    // ---- FETCH

    private static void fetchOfNobody() {
        Due.says("the fewest ARTICLES who are there (of that set, or not) by whom none of that set is left");
        Due.due("nobody of nobody", Due.of(EASY).fetch(0), 0);
        Due.due("nobody of all", allThere(EASY).fetch(0), 0);
        Due.due("one by another one, not of the set", allThere(HELD).fetch(4), 1);
        Due.due("two by another one, not of the set", allThere(HELD).fetch(6), 1);
        Due.due("two by one of the set", allThere(HELD).fetch(3), 1);
        Due.due("one by itself", allThere(HELD).fetch(8), 8);
        Due.due("one by itself, others would come, too", allThere(HELD).fetch(1), 1);
        Due.due("one of the set and one who is not", allThere(HELD).fetch(12), 9);
    }

    private static void fetchOfAll() {
        Due.says("if one CALLS for all of them (the COMPANY of the rest stays)");
        Due.due("all of six who stay alone", allThere(EASY).fetch(63), 63);
        Due.due("all but one of them", allThere(EASY).fetch(31), 31);
        Due.due("all of four, two of whom are held", allThere(HELD).fetch(15), 9);
        Due.due("one of one", allThere("v00/9;t1100").fetch(1), 1);
        // Each hears 5 of 5: by one who comes all the others do.
        TrickHouse six = Due.of("v00/9;t1100;t1101;t1102;t1103;t1104;t1105");
        Due.send(six, 0, 1, 2, 3, 4, 5);
        Due.due("all by the first", six.fetch(63), 1);
        Due.due("all but the first by the first", six.fetch(62), 1);
        Due.due("the last by the first", six.fetch(32), 1);
    }

    private static void fetchFewest() {
        Due.says("as a set: of several the least");
        // 3 longs for 2 of what 0, 1 and 2 laugh, each 1.
        TrickHouse x = allThere("v00/9;t1100;t1100;t1100;t1002");
        Due.due("itself is fewer than two others", x.fetch(8), 8);
        Due.due("0 and 3: 3 does not come by 0 alone", x.fetch(9), 3);
        Due.due("0, 1 and 3: by 0 and 1", x.fetch(11), 3);
        Due.due("2 and 3: by 0 and 2, by 1 and 2, by 2 and 3", x.fetch(12), 5);
        Due.due("miss(3, 3)", x.miss(3, 3), 2);
        Due.due("by any of them: the least", x.fetch(8), 1);
        Due.due("cheer(0, 0)", x.cheer(0, 0), 1);
        Due.due("miss(3, 2)", x.miss(3, 2), 3);
        Due.due("by 1, 2 or itself", x.fetch(8), 2);
        Due.says("whom to call for so that some come away");
        Due.due("miss(3, 49)", x.miss(3, 49), 2);
        Due.due("one who would come by any CALL comes by none, too", x.fetch(8), 0);
        Due.due("with another one, by that", x.fetch(9), 1);
        Due.due("nothing is changed", x.there(), 15);
    }

    private static void fetchRefusals() {
        Due.says("STATE: there is no CITY; OUTSIDE: set (of ARTICLES that there are); STATE: one of it is not there.");
        TrickHouse all = allThere(EASY);
        TrickHouse nobody = Due.of(EASY);
        for (int set : NO_SETS) {
            Due.due("fetch(" + set + ")", all.fetch(set), TrickHouse.OUTSIDE);
            Due.due("fetch(" + set + "), nobody is there", nobody.fetch(set), TrickHouse.OUTSIDE);
            Due.due("fetch(" + set + ") without a CITY", new TrickHouse().fetch(set), TrickHouse.STATE);
        }
        Due.due("fetch(0) without a CITY", new TrickHouse().fetch(0), TrickHouse.STATE);
        Due.due("fetch(63), nobody is there", nobody.fetch(63), TrickHouse.STATE);
        Due.due("call(5)", all.call(5), 0);
        Due.due("all who are there", all.fetch(31), 31);
        Due.due("one more", all.fetch(63), TrickHouse.STATE);
        Due.due("that one alone", all.fetch(32), TrickHouse.STATE);
        TrickHouse one = allThere("v00/9;t1100");
        Due.due("fetch(2) of one ARTICLE", one.fetch(2), TrickHouse.OUTSIDE);
        Due.due("fetch(3) of one ARTICLE", one.fetch(3), TrickHouse.OUTSIDE);
    }

    // ---- LURE

    private static void lure() {
        Due.says("LURE of an ARTICLE who is there: the same, if one does not CALL for it itself; NONE: there are none.");
        TrickHouse x = allThere("v00/9;t1100;t1100;t1100;t1002");
        Due.due("3 by two others, the least of them", x.lure(3), 3);
        Due.due("0, who stays alone", x.lure(0), NONE);
        Due.due("miss(0, 1)", x.miss(0, 1), 0);
        // 0 hears 1 each of 1 and 2, and 3 does not laugh: both must come.
        Due.due("0 by both who laugh", x.lure(0), 6);
        Due.due("miss(0, 2)", x.miss(0, 2), 1);
        Due.due("0 by one of them", x.lure(0), 2);
        Due.due("nothing is changed", x.there(), 15);
        TrickHouse six = allThere(EASY);
        Due.due("miss(5, 1)", six.miss(5, 1), 0);
        Due.due("the last by all others", six.lure(5), 31);
        Due.due("miss(0, 1)", six.miss(0, 1), 0);
        // 0 and 5 alone would hold each other.
        Due.due("the first by all others, too", six.lure(0), 62);
        Due.due("cheer(5, 0)", six.cheer(5, 0), 1);
        Due.due("the first by all who laugh", six.lure(0), 30);
    }

    private static void lureOfNone() {
        Due.says("whom so that one comes of itself");
        TrickHouse one = allThere("v00/9;t1900");
        Due.due("one who stays alone", one.lure(0), NONE);
        Due.due("miss(0, 1)", one.miss(0, 1), 0);
        Due.due("one who would not stay alone", one.lure(0), 0);
        TrickHouse six = allThere(EASY);
        for (int a = 0; a < 6; a++) {
            Due.due("lure(" + a + ") of six who stay alone", six.lure(a), NONE);
        }
        Due.due("miss(5, 6)", six.miss(5, 6), 0);
        Due.due("one who hears 5 of 6", six.lure(5), 0);
        Due.due("miss(5, 5)", six.miss(5, 5), 6);
        Due.due("one who hears 5 of 5", six.lure(5), 1);
    }

    private static void lureRefusals() {
        Due.says("LURE, as a set; NONE. UNKNOWN; STATE: it is not there.");
        TrickHouse all = allThere(HELD);
        TrickHouse nobody = Due.of(HELD);
        for (int a : new int[] {LEAST_INT, -1, 4, 6, 32, MOST_INT}) {
            Due.due("lure(" + a + ")", all.lure(a), TrickHouse.UNKNOWN);
            Due.due("lure(" + a + "), nobody is there", nobody.lure(a), TrickHouse.UNKNOWN);
        }
        Due.due("lure(0) without a CITY", new TrickHouse().lure(0), TrickHouse.UNKNOWN);
        for (int a = 0; a < 4; a++) {
            Due.due("lure(" + a + "), nobody is there", nobody.lure(a), TrickHouse.STATE);
        }
        int[] due = {NONE, 1, 1, NONE};
        for (int a = 0; a < 4; a++) {
            Due.due("lure(" + a + "), all are there", all.lure(a), due[a]);
        }
    }
}
