import java.util.ArrayList;
import java.util.List;

/** All of an object that calls can show, but fault(): what a call that changes nothing leaves alike. */
final class Seen {
    private Seen() { }

    static List<Long> of(TrickHouse x) {
        List<Long> seen = new ArrayList<>();
        seen.add((long) x.trace());
        for (int what = 0; what <= 4; what++) {
            seen.add((long) x.many(what));
        }
        seen.add((long) x.there());
        for (int a = 0; a < 6; a++) {
            for (int what = 0; what <= 5; what++) {
                seen.add((long) x.ofArticle(a, what));
            }
            seen.add((long) x.gaieties(a));
            seen.add((long) x.kinds(a));
        }
        for (int k = 0; k < 4; k++) {
            seen.add((long) x.space(k));
        }
        seen.add(x.wheres(0));
        seen.add(x.wheres(1));
        for (int k = 0; k < 4; k++) {
            cells(x, k, seen);
        }
        return seen;
    }

    private static void cells(TrickHouse x, int k, List<Long> seen) {
        for (int lane = 0; lane <= 2; lane++) {
            long cell = 0;
            for (int i = 0; i <= 60 && cell != TrickHouse.LOST; i++) {
                cell = x.cell(k, i, lane);
                seen.add(cell);
            }
            seen.add((long) x.fault());
        }
    }
}
