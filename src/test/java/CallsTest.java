/** Promises 16 to 18: packs, fetch, lure. */
public final class CallsTest {
    public static void main(String[] args) {
        withoutCity();
        packs();
        packsOfMost();
        firstPackGoesBack();
        fetch();
        fetchTakesTheLeast();
        fetchOfAll();
        lure();
        whoWouldComeOfItself();
        Due.end();
    }

    private static void withoutCity() {
        TrickHouse x = new TrickHouse();
        Due.due("packs(-1, 9)", x.packs(-1, 9), TrickHouse.STATE);
        Due.due("fetch(-1)", x.fetch(-1), TrickHouse.STATE);
        Due.due("lure(0)", x.lure(0), TrickHouse.UNKNOWN);
    }

    private static void packs(TrickHouse x, int set, int ways, int... rooms) {
        Due.due("packs(" + set + ", -1)", x.packs(set, -1), ways);
        for (int k = 0; k < 6; k++) {
            int room = k < rooms.length ? rooms[k] : TrickHouse.NONE;
            Due.due("packs(" + set + ", " + k + ")", x.packs(set, k), room);
        }
    }

    private static void packs() {
        TrickHouse x = Due.of("v00/64;t2000;t3000;t4000");
        packs(x, 0, 1);
        packs(x, 1, 2, 0);
        packs(x, 2, 2, TrickHouse.NONE, 0);
        packs(x, 4, 2, TrickHouse.NONE, TrickHouse.NONE, 0);
        // 2 and 3: together in 6, or apart.
        packs(x, 3, 3, 0, 0);
        // 2 and 4: together in 6, or apart.
        packs(x, 5, 3, 0, TrickHouse.NONE, 0);
        packs(x, 6, 2, TrickHouse.NONE, 0, 1);
        // 2 and 3 in 6, 4 in 4; 2 and 4 in 6, 3 in 4.
        packs(x, 7, 2, 0, 0, 1);
        Due.due("packs(8, -1)", x.packs(8, -1), TrickHouse.OUTSIDE);
        Due.due("packs(-1, -1)", x.packs(-1, -1), TrickHouse.OUTSIDE);
        Due.due("packs(0, -2)", x.packs(0, -2), TrickHouse.OUTSIDE);
        Due.due("packs(0, 6)", x.packs(0, 6), TrickHouse.OUTSIDE);
        Due.due("widen(1, 2)", x.widen(1, 2), 4);
        packs(x, 7, 0);
    }

    private static void packsOfMost() {
        TrickHouse x = Due.of("v00/9999;t1000;t1000;t1000;t1000;t1000;t1000");
        packs(x, 63, 4096, 0, 0, 0, 0, 0, 0);
        TrickHouse y = Due.of("v00/1111;t1000;t1000;t1000;t1000;t1000;t1000");
        packs(y, 15, 24, 0, 1, 2, 3);
        packs(y, 63, 0);
        packs(y, 60, 24, TrickHouse.NONE, TrickHouse.NONE, 0, 1, 2, 3);
    }

    private static void firstPackGoesBack() {
        // 0 fits both, but 1 fits room 0 alone.
        TrickHouse x = Due.of("v00/73;t3000;t7000");
        packs(x, 3, 1, 1, 0);
    }

    private static void fetch() {
        TrickHouse x = Due.of("v00/9;t1500;t1205;t1300");
        Due.due("nobody of nobody", x.fetch(0), 0);
        Due.due("one who is not there", x.fetch(1), TrickHouse.STATE);
        Due.due("one who is no article", x.fetch(8), TrickHouse.OUTSIDE);
        Due.due("-1", x.fetch(-1), TrickHouse.OUTSIDE);
        Due.send(x, 0, 1, 2);
        Due.due("0 longs for nothing: itself", x.fetch(1), 1);
        // By 0 or by 1 itself, each one CALL: 0 is the lesser set.
        Due.due("1", x.fetch(2), 1);
        Due.due("0 and 1 by 0", x.fetch(3), 1);
        Due.due("2 by itself", x.fetch(4), 4);
        Due.due("1 and 2", x.fetch(6), 5);
        Due.due("all", x.fetch(7), 5);
        Due.due("nobody", x.fetch(0), 0);
        Due.due("nothing is changed", x.there(), 7);
    }

    private static void fetchTakesTheLeast() {
        // 2 hears 3 of 0 and 1 each; it longs for 6. By 0, 1 or itself: 1 is the least set.
        TrickHouse x = Due.of("v00/9;t1300;t1300;t1006;t1000");
        Due.send(x, 0, 1, 2, 3);
        Due.due("fetch(4)", x.fetch(4), 1);
        Due.due("lure(2)", x.lure(2), 1);
        Due.due("fetch(6)", x.fetch(6), 2);
        Due.due("fetch(12)", x.fetch(12), 9);
        Due.due("miss(2, 1)", x.miss(2, 1), 6);
        Due.due("two are more than itself", x.fetch(4), 4);
        Due.due("but lure by two", x.lure(2), 3);
    }

    private static void fetchOfAll() {
        TrickHouse x = Due.of("v00/9;t1000;t1000;t1000;t1000;t1000;t1000");
        Due.send(x, 0, 1, 2, 3, 4, 5);
        Due.due("six who are merry alone", x.fetch(63), 63);
        Due.due("five", x.fetch(31), 31);
        Due.due("none can be lured", x.lure(5), TrickHouse.NONE);
        // 0 would stay with any one of five others.
        Due.due("miss(0, 1)", x.miss(0, 1), 0);
        for (int a = 1; a < 6; a++) {
            Due.due("cheer", x.cheer(a, 1), 0);
        }
        Due.due("lure(0) by all others", x.lure(0), 62);
        Due.due("fetch(1) by itself", x.fetch(1), 1);
    }

    private static void lure() {
        TrickHouse x = Due.of("v00/9;t1500;t1205;t1300");
        Due.due("lure(3)", x.lure(3), TrickHouse.UNKNOWN);
        Due.due("lure(-1)", x.lure(-1), TrickHouse.UNKNOWN);
        Due.due("lure(0), not there", x.lure(0), TrickHouse.STATE);
        Due.send(x, 0, 1, 2);
        Due.due("lure(0)", x.lure(0), TrickHouse.NONE);
        Due.due("lure(1)", x.lure(1), 1);
        Due.due("lure(2)", x.lure(2), TrickHouse.NONE);
        Due.due("nothing is changed", x.there(), 7);
    }

    private static void whoWouldComeOfItself() {
        TrickHouse x = Due.of("v00/9;t1500;t1205;t1300");
        Due.send(x, 0, 1, 2);
        Due.due("miss(1, 49)", x.miss(1, 49), 5);
        Due.due("lure(1) by nobody", x.lure(1), 0);
        Due.due("fetch(2) by nobody", x.fetch(2), 0);
        Due.due("fetch(3)", x.fetch(3), 1);
        Due.due("1 is there all the same", x.there(), 7);
    }
}
