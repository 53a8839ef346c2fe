/** Promises 19 to 24, sentence by sentence at its edges; "Terms", part 4. */
public final class HeardEdgesTest {
    private static final int LEAST_INT = Integer.MIN_VALUE, MOST_INT = Integer.MAX_VALUE;
    private static final long ALL_CORNERS = 0xFFFFFFFFL;
    private static final int ALL_GAIETIES = 1023, ALL_KINDS = 7;

    /** A house at CORNER 0, one of each kind, who long for nothing. */
    private static final String THREE = "v00/9;t1500;b1500;p1500";

    public static void main(String[] args) {
        readings();
        readingsFull();
        readingOutside();
        back();
        noReadings();
        readingsOfNow();
        allReadings();
        gaieties();
        whoIsThereStays();
        kinds();
        wheres();
        wheresOutside();
        odds();
        oddsOfMany();
        oddsLost();
        Due.end();
    }

    private static TrickHouse allThere(String text) {
        TrickHouse x = Due.of(text);
        for (int a = 0; a < x.many(0); a++) {
            Due.send(x, a);
        }
        return x;
    }

    private static void reading(TrickHouse x, int corner, int v, int number) {
        Due.due("reading(" + corner + ", " + v + ")", x.reading(corner, v), number);
    }

    /** One READING in place of all that there are. */
    private static void only(TrickHouse x, int corner, int v) {
        Due.due("back of all", x.back(x.many(4)), 0);
        reading(x, corner, v, 0);
    }

    // ---- READINGS

    private static void readings() {
        Due.says("READINGS, 8 at most, numbered by how many there are");
        TrickHouse x = Due.of(THREE);
        Due.due("none", x.many(4), 0);
        for (int k = 0; k < 8; k++) {
            reading(x, k, k, k);
            Due.due("so many", x.many(4), k + 1);
        }
    }

    private static void readingsFull() {
        Due.says("STATE: there is no CITY; FULL.");
        TrickHouse x = Due.of(THREE);
        for (int k = 0; k < 8; k++) {
            reading(x, 0, 0, k);
        }
        reading(x, 0, 1, TrickHouse.FULL);
        reading(x, 0, 1, TrickHouse.FULL);
        Due.due("eight", x.many(4), 8);
        Due.due("by eight all are so", x.gaieties(0), ALL_GAIETIES);
        Due.due("back(1)", x.back(1), 7);
        reading(x, 0, 0, 7);
        reading(x, 0, 0, TrickHouse.FULL);
        Due.due("the same CITY anew", x.city(0, 0, 0, THREE.length()), 3);
        reading(x, 0, 0, 0);
        reading(new TrickHouse(), 0, 0, TrickHouse.STATE);
        reading(new TrickHouse(), 63, 99, TrickHouse.STATE);
    }

    private static void readingOutside() {
        Due.says("A READING: its number. OUTSIDE: corner (0 .. 63), v (0 .. 99)");
        TrickHouse x = Due.of(THREE);
        TrickHouse full = Due.of(THREE);
        for (int k = 0; k < 8; k++) {
            reading(full, 0, 0, k);
        }
        for (TrickHouse one : new TrickHouse[] {x, full, new TrickHouse()}) {
            for (int corner : new int[] {LEAST_INT, -1, 64, MOST_INT}) {
                reading(one, corner, 0, TrickHouse.OUTSIDE);
                reading(one, corner, 100, TrickHouse.OUTSIDE);
            }
            for (int v : new int[] {LEAST_INT, -1, 100, MOST_INT}) {
                reading(one, 63, v, TrickHouse.OUTSIDE);
            }
        }
        Due.due("none of them is taken", x.many(4), 0);
        reading(x, 0, 0, 0);
        reading(x, 63, 99, 1);
        reading(x, 0, 99, 2);
        reading(x, 63, 0, 3);
    }

    private static void back() {
        Due.says("The last k READINGS (0 .. as many as there are) are taken back: how many are left. OUTSIDE.");
        TrickHouse none = new TrickHouse();
        TrickHouse x = allThere(THREE);
        for (TrickHouse one : new TrickHouse[] {none, x}) {
            Due.due("back(0) of none", one.back(0), 0);
            for (int k : new int[] {LEAST_INT, -1, 1, MOST_INT}) {
                Due.due("back(" + k + ") of none", one.back(k), TrickHouse.OUTSIDE);
            }
        }
        for (int k = 0; k < 8; k++) {
            reading(x, 0, k == 0 ? 19 : 18, k);
        }
        for (int k : new int[] {LEAST_INT, -1, 9, MOST_INT}) {
            Due.due("back(" + k + ") of 8", x.back(k), TrickHouse.OUTSIDE);
        }
        Due.due("eight", x.many(4), 8);
        Due.due("back(0) of 8", x.back(0), 8);
        Due.due("by all no GAIETY is so", x.gaieties(0), 0);
        Due.due("back(7) of 8", x.back(7), 1);
        Due.due("the first is left", x.gaieties(0), 1 << 5);
        Due.due("back(2) of 1", x.back(2), TrickHouse.OUTSIDE);
        Due.due("back(1) of 1", x.back(1), 0);
        for (int k = 0; k < 8; k++) {
            reading(x, 0, 0, k);
        }
        Due.due("back(8) of 8", x.back(8), 0);
        Due.due("none is left", x.gaieties(0), ALL_GAIETIES);
    }

    private static void noReadings() {
        Due.says("All that follows: in place of what it is alone, by which all READINGS are so");
        for (TrickHouse x : new TrickHouse[] {Due.of(THREE), allThere(THREE)}) {
            for (int a = 0; a < 3; a++) {
                Due.due("all GAIETIES", x.gaieties(a), ALL_GAIETIES);
                Due.due("all KINDS", x.kinds(a), ALL_KINDS);
            }
            Due.due("all WHERES", x.wheres(0), ALL_CORNERS);
            Due.due("all WHERES", x.wheres(1), ALL_CORNERS);
        }
    }

    private static void readingsOfNow() {
        Due.says("at a CORNER one HEARD so much (of who is there now)");
        TrickHouse x = Due.of(THREE);
        Due.send(x, 0);
        reading(x, 0, 5, 0);
        Due.due("5 of 0 alone", x.gaieties(0), 1 << 5);
        Due.send(x, 1);
        // They laugh 5 and 4 now, so 5 is 1 of the one, or 0 of the other.
        Due.due("5 of 0 and 1: GAIETIES", x.gaieties(0), 1 << 1);
        Due.due("5 of 0 and 1: GAIETIES of the other", x.gaieties(1), 3);
        Due.due("5 of 0 and 1: KINDS", x.kinds(0), 0);
        // 9 is heard as 5 four CORNERS off: 4, 11, 18, 25, 32.
        Due.due("5 of 0 and 1: WHERES", x.wheres(0), 1L << 4 | 1L << 11 | 1L << 18 | 1L << 25);
        Due.due("5 of 0 and 1: WHERES", x.wheres(1), 1L);
        Due.due("call(0)", x.call(0), 0);
        Due.due("5 of 1: GAIETIES", x.gaieties(1), 1 << 6);
        Due.due("5 of 1: GAIETIES of one who went", x.gaieties(0), 0);
        Due.due("call(1)", x.call(1), 0);
        Due.due("5 of nobody: GAIETIES", x.gaieties(0), 0);
        Due.due("5 of nobody: WHERES", x.wheres(0), 0);
        Due.due("back(1)", x.back(1), 0);
        reading(x, 63, 0, 0);
        Due.due("0 of nobody: GAIETIES", x.gaieties(0), ALL_GAIETIES);
        Due.due("0 of nobody: KINDS", x.kinds(0), ALL_KINDS);
        Due.due("0 of nobody: WHERES", x.wheres(1), ALL_CORNERS);
        TrickHouse y = allThere(THREE);
        reading(y, 0, 19, 0);
        Due.due("19 of all", y.kinds(0), 1);
        Due.due("shift(1)", y.shift(1), 0);
        Due.due("19 of all from another CORNER", y.gaieties(0), 1 << 6);
        Due.due("cheer(0, 6)", y.cheer(0, 6), 5);
        Due.due("19 of all, of whom one is gayer", y.kinds(0), 1);
    }

    private static void allReadings() {
        Due.says("by which all READINGS are so");
        TrickHouse x = allThere("v00/9;t1500");
        for (int k = 0; k < 7; k++) {
            reading(x, k, k < 5 ? 5 - k : 0, k);
        }
        Due.due("by seven", x.gaieties(0), 1 << 5);
        Due.due("by seven", x.wheres(0), 1L);
        reading(x, 63, 1, 7);
        Due.due("by the eighth none", x.gaieties(0), 0);
        Due.due("by the eighth none", x.kinds(0), 0);
        Due.due("by the eighth nowhere", x.wheres(0), 0);
        Due.due("by the eighth nowhere", x.wheres(1), 0);
        Due.due("back(1)", x.back(1), 7);
        Due.due("by seven again", x.kinds(0), 1);
    }

    // ---- GAIETIES, KINDS, WHERES

    private static void gaieties() {
        Due.says("GAIETIES of an ARTICLE: 0 .. 9, as a set");
        TrickHouse x = allThere("v00/9;t1500");
        for (int v = 0; v <= 11; v++) {
            only(x, 0, v);
            Due.due("a THING heard as " + v, x.gaieties(0), v <= 9 ? 1 << v : 0);
        }
        only(x, 3, 0);
        Due.due("a THING not heard three off", x.gaieties(0), 15);
        only(x, 2, 7);
        Due.due("a THING heard as 7 two off", x.gaieties(0), 1 << 9);
        only(x, 2, 8);
        Due.due("a THING heard as 8 two off", x.gaieties(0), 0);
        only(x, 63, 0);
        Due.due("a THING not heard far off", x.gaieties(0), ALL_GAIETIES);
        TrickHouse b = allThere("v00/9;b1500");
        only(b, 0, 0);
        Due.due("a BEAST heard as 0", b.gaieties(0), 3);
        only(b, 0, 8);
        Due.due("a BEAST heard as 8", b.gaieties(0), 1 << 9);
        only(b, 0, 9);
        Due.due("a BEAST heard as 9", b.gaieties(0), 0);
        TrickHouse p = allThere("v00/9;p1500");
        only(p, 0, 0);
        Due.due("a PERSON heard as 0", p.gaieties(0), 1);
        only(p, 0, 1);
        Due.due("a PERSON heard as 1", p.gaieties(0), 0);
        only(p, 0, 18);
        Due.due("a PERSON heard as 18", p.gaieties(0), 1 << 9);
        only(p, 1, 1);
        Due.due("a PERSON heard as 1 one off", p.gaieties(0), 1 << 1);
        Due.due("GAIETY is as it was", p.ofArticle(0, 2), 5);
        Due.says("GAIETIES, as a set. UNKNOWN.");
        for (int a : new int[] {LEAST_INT, -1, 1, 6, 32, MOST_INT}) {
            Due.due("gaieties(" + a + ")", x.gaieties(a), TrickHouse.UNKNOWN);
            Due.due("gaieties(" + a + ") without a CITY", new TrickHouse().gaieties(a), TrickHouse.UNKNOWN);
        }
        Due.due("gaieties(0) without a CITY", new TrickHouse().gaieties(0), TrickHouse.UNKNOWN);
    }

    private static void whoIsThereStays() {
        Due.says("(who is there stays as it is)");
        TrickHouse x = Due.of("v00/9;t1500;t1305;t1400");
        Due.send(x, 0, 1);
        reading(x, 0, 3, 0);
        Due.due("1 is heard, though it would come if 0 were of 0", x.gaieties(0), 1);
        Due.due("2 is not there: no GAIETY changes what is heard", x.gaieties(2), 0);
        Due.due("2 is not there: no kind changes what is heard", x.kinds(2), 0);
        only(x, 0, 7);
        Due.due("1 is heard, though it would come if 0 were a BEAST", x.kinds(0), 2);
        only(x, 0, 8);
        Due.due("2 is not there: by any GAIETY it is so", x.gaieties(2), ALL_GAIETIES);
        Due.due("2 is not there: by any kind it is so", x.kinds(2), ALL_KINDS);
        Due.due("who is there", x.there(), 3);
    }

    private static void kinds() {
        Due.says("KINDS of an ARTICLE: 0 .. 2, as a set");
        TrickHouse x = allThere("v00/9;b1500");
        int[] due = {0, 0, 0, 0, 2, 1, 0, 0, 0, 0, 4, 0};
        for (int v = 0; v < due.length; v++) {
            only(x, 0, v);
            Due.due("5 heard as " + v, x.kinds(0), due[v]);
        }
        only(x, 5, 0);
        Due.due("5 not heard five off", x.kinds(0), 3);
        only(x, 63, 0);
        Due.due("5 not heard far off", x.kinds(0), 7);
        TrickHouse zero = allThere("v00/9;p1000");
        only(zero, 0, 0);
        Due.due("0 heard as 0", zero.kinds(0), 7);
        only(zero, 0, 1);
        Due.due("0 heard as 1", zero.kinds(0), 0);
        TrickHouse nine = allThere("v00/9;t1900");
        only(nine, 0, 18);
        Due.due("9 heard as 18", nine.kinds(0), 4);
        only(nine, 0, 99);
        Due.due("9 heard as 99", nine.kinds(0), 0);
        Due.due("it is what it was", nine.ofArticle(0, 0), 0);
        Due.says("KINDS, as a set. UNKNOWN.");
        for (int a : new int[] {LEAST_INT, -1, 1, 6, 32, MOST_INT}) {
            Due.due("kinds(" + a + ")", x.kinds(a), TrickHouse.UNKNOWN);
            Due.due("kinds(" + a + ") without a CITY", new TrickHouse().kinds(a), TrickHouse.UNKNOWN);
        }
        Due.due("kinds(0) without a CITY", new TrickHouse().kinds(0), TrickHouse.UNKNOWN);
    }

    private static void wheres() {
        Due.says("WHERES: CORNERS where the house STANDS, as sets of 32");
        TrickHouse x = allThere("v34/9;t1900");
        for (int corner : new int[] {0, 7, 8, 31, 32, 56, 63}) {
            only(x, corner, 9);
            Due.due("at " + corner, x.wheres(0), corner < 32 ? 1L << corner : 0);
            Due.due("at " + corner, x.wheres(1), corner < 32 ? 0 : 1L << corner - 32);
        }
        only(x, 0, 8);
        Due.due("a step off the first", x.wheres(0), 1L << 1 | 1L << 8);
        only(x, 63, 8);
        Due.due("a step off the last", x.wheres(1), 1L << 30 | 1L << 23);
        only(x, 28, 10);
        Due.due("nowhere", x.wheres(0), 0);
        Due.due("nowhere", x.wheres(1), 0);
        // 0 is heard where the house is 9 off or farther, so of CORNER 0's 64 all but those nearer.
        only(x, 0, 0);
        Due.due("far off", x.wheres(0), 1L << 23 | 1L << 30 | 1L << 31);
        Due.due("it stands where it did", x.many(3), 35);
        TrickHouse nobody = Due.of("v34/9;t1900");
        only(nobody, 0, 0);
        Due.due("nobody is heard anywhere", nobody.wheres(0), ALL_CORNERS);
        Due.due("nobody is heard anywhere", nobody.wheres(1), ALL_CORNERS);
        only(nobody, 0, 1);
        Due.due("nobody is heard so nowhere", nobody.wheres(1), 0);
    }

    private static void wheresOutside() {
        Due.says("WHERES of one half of the CORNERS (half 0: CORNERS 0 .. 31; 1: CORNERS 32 .. 63, bit k for CORNER 32 and k), as a set. LOST: OUTSIDE: half; STATE: there is no CITY.");
        TrickHouse x = Due.of(THREE);
        for (int half : new int[] {LEAST_INT, -1, 2, MOST_INT}) {
            Due.due("wheres(" + half + ")", x.wheres(half), TrickHouse.LOST);
            Due.due("wheres(" + half + ") without a CITY", new TrickHouse().wheres(half), TrickHouse.LOST);
        }
        Due.due("wheres(0) without a CITY", new TrickHouse().wheres(0), TrickHouse.LOST);
        Due.due("wheres(1) without a CITY", new TrickHouse().wheres(1), TrickHouse.LOST);
        Due.due("wheres(0)", x.wheres(0), ALL_CORNERS);
        Due.due("wheres(1)", x.wheres(1), ALL_CORNERS);
    }

    // ---- ODDS

    private static void odds(TrickHouse x, int a, long upper, long lower) {
        Due.due("odds(" + a + ", 0)", x.odds(a, 0), upper);
        Due.due("odds(" + a + ", 1)", x.odds(a, 1), lower);
    }

    private static void odds() {
        Due.says("Shares are told as upper and lower number (above 0) in least terms.");
        TrickHouse one = allThere("v00/9;t1900");
        odds(one, 0, 1, 2);
        Due.due("miss(0, 1)", one.miss(0, 1), 0);
        odds(one, 0, 0, 1);
        TrickHouse six = allThere("v00/9;t1100;t1100;t1100;t1100;t1100;t1100");
        for (int a = 0; a < 6; a++) {
            odds(six, a, 1, 2);
        }
        Due.due("miss(5, 6)", six.miss(5, 6), 0);
        odds(six, 5, 0, 1);
    }

    private static void oddsOfMany() {
        Due.says("if for each ARTICLE who is there one CALLS, or does not, all such sets alike: the share by which it is left (in the COMPANY of the rest)");
        TrickHouse x = allThere("v00/9;t1100;t1100;t1100;t1100;t1100;t1100");
        // One more of the five others must be left each time: of 32 sets 31, 26, 16, 6, 1 do.
        int[][] due = {{31, 64}, {13, 32}, {1, 4}, {3, 32}, {1, 64}};
        for (int longing = 1; longing <= 5; longing++) {
            Due.due("miss(5)", x.miss(5, longing), longing - 1);
            odds(x, 5, due[longing - 1][0], due[longing - 1][1]);
        }
        Due.due("call(0)", x.call(0), 32);
        Due.due("5 hears 4 of 5 and comes away, too", x.there(), 30);
        odds(x, 1, 1, 2);
        TrickHouse chain = allThere("v00/9;t1900;t1509;t1005");
        odds(chain, 0, 1, 2);
        odds(chain, 1, 1, 4);
        // 2 hears 9 of 0, whether 1 is left or not; without 0 first 1 comes away, then 2.
        odds(chain, 2, 1, 4);
        Due.due("miss(2, 10)", chain.miss(2, 10), 5);
        odds(chain, 2, 1, 8);
        Due.due("nothing is changed", chain.there(), 7);
    }

    private static void oddsLost() {
        Due.says("ODDS (which 0 the upper, 1 the lower number). LOST: UNKNOWN; OUTSIDE; STATE: it is not there.");
        TrickHouse x = Due.of(THREE);
        Due.send(x, 0);
        for (int a : new int[] {LEAST_INT, -1, 3, 6, 32, MOST_INT}) {
            Due.due("odds(" + a + ", 0)", x.odds(a, 0), TrickHouse.LOST);
            Due.due("odds(" + a + ", 1) without a CITY", new TrickHouse().odds(a, 1), TrickHouse.LOST);
        }
        Due.due("odds(0, 0) without a CITY", new TrickHouse().odds(0, 0), TrickHouse.LOST);
        for (int which : new int[] {LEAST_INT, -1, 2, MOST_INT}) {
            Due.due("odds(0, " + which + ")", x.odds(0, which), TrickHouse.LOST);
        }
        Due.due("odds(1, 0), not there", x.odds(1, 0), TrickHouse.LOST);
        Due.due("odds(2, 1), not there", x.odds(2, 1), TrickHouse.LOST);
        odds(x, 0, 1, 2);
    }
}
