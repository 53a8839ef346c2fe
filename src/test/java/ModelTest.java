import java.util.Random;

/** All promises: random runs of up to 512 calls, each answer held against the model's. */
public final class ModelTest {
    private static final int RUNS = 600, CALLS = 512;

    private final Random random;
    private final TrickHouse x = new TrickHouse();
    private final Model model = new Model();
    private final boolean merry;
    private int calls = 0;

    private ModelTest(long seed) {
        random = new Random(seed);
        merry = seed % 2 == 0;
    }

    public static void main(String[] args) {
        for (int run = 0; run < RUNS; run++) {
            new ModelTest(run).run(run);
        }
        Due.end();
    }

    private void run(int run) {
        if (run % 20 != 0) {
            tellCity();
        }
        while (calls < CALLS) {
            int kind = random.nextInt(60);
            if (kind == 0 && calls < CALLS - 70) {
                tellCity();
            } else if (kind < 4 && calls < CALLS - 70) {
                tellYear();
            } else {
                one(random.nextInt(36));
            }
        }
    }

    private void due(String call, long got, long want) {
        calls++;
        Due.due(call + " as call " + calls, got, want);
    }

    private int upTo(int most) {
        return random.nextInt(most + 1);
    }

    /** Mostly within 0 .. most, at times beside it or far off. */
    private int about(int most) {
        int way = random.nextInt(40);
        if (way == 0) return -1;
        if (way == 1) return most + 1;
        if (way == 2) return random.nextBoolean() ? Integer.MAX_VALUE : Integer.MIN_VALUE;
        return upTo(most);
    }

    private String text() {
        StringBuilder text = new StringBuilder("v");
        text.append(upTo(7)).append(upTo(7)).append('/');
        for (int rooms = 1 + upTo(3); rooms > 0; rooms--) {
            text.append(1 + upTo(8));
        }
        for (int articles = random.nextInt(3) == 0 ? 1 + upTo(5) : 6; articles > 0; articles--) {
            text.append(';').append("tbp".charAt(upTo(2))).append(1 + upTo(merry ? 3 : 8));
            text.append(upTo(9));
            int longing = upTo(3) == 0 ? 0 : upTo(merry ? 12 : 49);
            text.append(longing / 10).append(longing % 10);
        }
        return text.toString();
    }

    /** At times with a code that is wrong, missing or too much. */
    private String perhapsWrong(String text) {
        StringBuilder changed = new StringBuilder(text);
        int place = random.nextInt(text.length());
        switch (random.nextInt(12)) {
            case 0: changed.setCharAt(place, "vtbp/;0123456789:x".charAt(random.nextInt(18))); break;
            case 1: changed.deleteCharAt(place); break;
            case 2: changed.insert(place, ";/19".charAt(upTo(3))); break;
            case 3: changed.setLength(place); break;
            case 4: changed.append(";t1000"); break;
            default: break;
        }
        return changed.toString();
    }

    private void tellCity() {
        int[] codes = Due.codes(perhapsWrong(text()));
        int lane = upTo(2);
        int from = upTo(3);
        fill(0, lane, from, codes);
        due("city(0, " + lane + ", " + from + ")", x.city(0, lane, from, codes.length),
                model.city(0, lane, from, codes.length));
    }

    private void tellYear() {
        int lane = upTo(2);
        int from = upTo(2);
        int pairs = upTo(20);
        int[] codes = new int[2 * pairs];
        int guess = Math.max(0, model.there());
        int most = Math.max(0, model.many(0) - 1);
        for (int p = 0; p < pairs; p++) {
            int a = random.nextInt(100) == 0 ? about(6) : upTo(most);
            boolean is = a >= 0 && a < 6 && (guess & 1 << a) != 0;
            codes[2 * p] = a;
            codes[2 * p + 1] = random.nextInt(100) == 0 ? about(1) : is ? 1 : 0;
            guess = after(guess, a, is);
        }
        fill(1, lane, from, codes);
        for (int what = 0; what <= 5; what++) {
            due("year(1, " + lane + ", " + from + ", " + pairs + ", " + what + ")",
                    x.year(1, lane, from, pairs, what), model.year(1, lane, from, pairs, what));
        }
    }

    private int after(int guess, int a, boolean is) {
        if (a < 0 || a >= model.many(0)) {
            return guess;
        }
        return Math.max(0, model.company(is ? guess & ~(1 << a) : guess | 1 << a));
    }

    private void fill(int k, int lane, int from, int[] codes) {
        due("sheet", x.sheet(k, lane, from + codes.length), model.sheet(k, lane, from + codes.length));
        for (int i = 0; i < codes.length; i++) {
            due("put", x.put(k, from + i, codes[i]), model.put(k, from + i, codes[i]));
        }
    }

    private int reallyHeard(int corner) {
        int heard = model.heard(corner);
        return heard < 0 || random.nextInt(8) == 0 ? about(99) : heard + (upTo(3) == 0 ? upTo(2) : 0);
    }

    private void one(int which) {
        int a = about(5), k = about(3), lane = about(2), i = about(8), j = about(8), n = about(6);
        int set = random.nextInt(8) == 0 ? about(63) : upTo(Math.max(0, (1 << model.many(0)) - 1));
        int corner = about(63), v = random.nextInt(), what = about(5);
        String with = " of a " + a + ", k " + k + ", lane " + lane + ", i " + i + ", j " + j + ", n " + n
                + ", set " + set + ", corner " + corner + ", v " + v + ", what " + what;
        switch (which) {
            case 0: due("city" + with, x.city(k, lane, i, n), model.city(k, lane, i, n)); break;
            case 1: due("ofArticle" + with, x.ofArticle(a, what), model.ofArticle(a, what)); break;
            case 2: due("space" + with, x.space(k), model.space(k)); break;
            case 3: v = about(9); due("cheer" + with, x.cheer(a, v), model.cheer(a, v)); break;
            case 4: v = about(merry ? 12 : 49); due("miss" + with, x.miss(a, v), model.miss(a, v)); break;
            case 5: v = about(9); due("widen" + with, x.widen(k, v), model.widen(k, v)); break;
            case 6: due("shift" + with, x.shift(corner), model.shift(corner)); break;
            case 7: due("there" + with, x.there(), model.there()); break;
            case 8: due("company" + with, x.company(set), model.company(set)); break;
            case 9: case 35: due("send" + with, x.send(a), model.send(a)); break;
            case 10: due("call" + with, x.call(a), model.call(a)); break;
            case 11: due("laughter" + with, x.laughter(), model.laughter()); break;
            case 12: due("heard" + with, x.heard(corner), model.heard(corner)); break;
            case 13: due("year" + with, x.year(k, lane, i, n, what), model.year(k, lane, i, n, what)); break;
            case 14: due("packs" + with, x.packs(set, what - 1), model.packs(set, what - 1)); break;
            case 15: set = upTo(1) == 0 ? set : set & model.there();
                due("fetch" + with, x.fetch(set), model.fetch(set)); break;
            case 16: due("lure" + with, x.lure(a), model.lure(a)); break;
            case 17: v = reallyHeard(corner); due("reading" + with, x.reading(corner, v), model.reading(corner, v)); break;
            case 18: due("back" + with, x.back(what), model.back(what)); break;
            case 19: due("gaieties" + with, x.gaieties(a), model.gaieties(a)); break;
            case 20: due("kinds" + with, x.kinds(a), model.kinds(a)); break;
            case 21: due("wheres" + with, x.wheres(lane), model.wheres(lane)); break;
            case 22: due("odds" + with, x.odds(a, lane), model.odds(a, lane)); break;
            case 23: n = about(60); due("sheet" + with, x.sheet(k, lane, n), model.sheet(k, lane, n)); break;
            case 24: due("lose" + with, x.lose(k), model.lose(k)); break;
            case 25: due("put" + with, x.put(k, i, v), model.put(k, i, v)); break;
            case 26: due("cell" + with, x.cell(k, i, lane), model.cell(k, i, lane)); break;
            case 27: due("copy" + with, x.copy(k, i, a, j, n), model.copy(k, i, a, j, n)); break;
            case 28: due("tell" + with, x.tell(a), model.tell(a)); break;
            case 29: due("announce" + with, x.announce(a), model.announce(a)); break;
            case 30: due("as" + with, x.as(a, lane), model.as(a, lane)); break;
            case 31: due("trace" + with, x.trace(), model.trace()); break;
            case 32: case 33: due("fault" + with, x.fault(), model.fault()); break;
            default: due("many" + with, x.many(what), model.many(what)); break;
        }
    }
}
