/**
 * The house in a city where vanished articles go, and from which few come away.
 *
 * <p>All rows are made once, with the object, and used again: the calls themselves make nothing.
 * Words in capitals are those of the document.
 */
public final class TrickHouse {
    public static final int UNKNOWN = -1, OUTSIDE = -2, STATE = -3, FULL = -4, NONE = -9;
    public static final long LOST = Long.MIN_VALUE;

    private static final int NO_FAULT = 0, NULL = 1, CAST = 2, INDEX = 3, SIZE = 4;
    private static final int FAULTS_FROM = -10, PLACES_FROM = -100;

    private static final int THING = 0, BEAST = 1, PERSON = 2, KINDS = 3;
    private static final int MOST_ARTICLES = 6, MOST_ROOMS = 4;
    private static final int MOST_BULK_OR_SPACE = 9, MOST_GAIETY = 9, MOST_LONGING = 49;
    private static final int SIDE = 8, CORNERS = 64, HALF = 32;
    private static final int MOST_READINGS = 8, MOST_HEARD = 99;
    private static final int MOST_PAIRS = 20;
    private static final int SHEETS = 4, MOST_CELLS = 60;
    private static final int NOTHING = -1, BYTES = 0, SHORTS = 1, INTS = 2;

    private final House house;
    private final Readings readings;
    private final Packing packing;
    private final Year toldYear;
    private final Sheet[] sheets;
    private int traced;
    private int lastFault;

    public TrickHouse() {
        house = new House();
        readings = new Readings();
        packing = new Packing(house);
        toldYear = new Year(house);
        sheets = new Sheet[SHEETS];
        for (int k = 0; k < SHEETS; k++) {
            sheets[k] = new Sheet();
        }
        traced = 0;
        lastFault = NO_FAULT;
    }

    // ---- 1 the city

    public int city(int sheet, int lane, int i, int n) {
        lastFault = NO_FAULT;
        if (!isSheet(sheet)) {
            return UNKNOWN;
        }
        if (!isLane(lane)) {
            return OUTSIDE;
        }
        Sheet row = sheets[sheet];
        int found = row.faultOfTaking(lane, i, n);
        if (found != NO_FAULT) {
            return failed(found);
        }
        int wrong = Text.firstFault(row, i, n);
        if (wrong != NONE) {
            return PLACES_FROM - wrong;
        }
        Text.build(house, row, i, n);
        readings.count = 0;
        return house.articleCount;
    }

    public int ofArticle(int a, int what) {
        if (!house.isArticle(a)) {
            return UNKNOWN;
        }
        Article article = house.articles[a];
        switch (what) {
            case 0: return article.kind;
            case 1: return article.bulk;
            case 2: return article.gaiety;
            case 3: return article.longing;
            case 4: return article.laugh();
            case 5: return has(house.present, a) ? 1 : 0;
            default: return OUTSIDE;
        }
    }

    public int space(int k) {
        return house.isRoom(k) ? house.spaces[k] : UNKNOWN;
    }

    public int cheer(int a, int v) {
        if (!house.isArticle(a)) {
            return UNKNOWN;
        }
        if (!within(v, 0, MOST_GAIETY)) {
            return OUTSIDE;
        }
        int was = house.articles[a].gaiety;
        house.articles[a].gaiety = v;
        return was;
    }

    public int miss(int a, int v) {
        if (!house.isArticle(a)) {
            return UNKNOWN;
        }
        if (!within(v, 0, MOST_LONGING)) {
            return OUTSIDE;
        }
        int was = house.articles[a].longing;
        house.articles[a].longing = v;
        return was;
    }

    public int widen(int k, int v) {
        if (!house.isRoom(k)) {
            return UNKNOWN;
        }
        if (!within(v, 1, MOST_BULK_OR_SPACE)) {
            return OUTSIDE;
        }
        int was = house.spaces[k];
        house.spaces[k] = v;
        return was;
    }

    public int shift(int corner) {
        if (!isCorner(corner)) {
            return OUTSIDE;
        }
        if (!house.stands()) {
            return STATE;
        }
        int was = house.corner;
        house.corner = corner;
        return was;
    }

    // ---- 2 who is there

    public int there() {
        return house.stands() ? house.present : STATE;
    }

    public int company(int set) {
        if (!house.stands()) {
            return STATE;
        }
        return house.isSet(set) ? house.companyOf(set) : OUTSIDE;
    }

    public int send(int a) {
        if (!house.isArticle(a)) {
            return UNKNOWN;
        }
        if (has(house.present, a)) {
            return STATE;
        }
        return house.keepCompanyOf(house.present | 1 << a);
    }

    public int call(int a) {
        if (!house.isArticle(a)) {
            return UNKNOWN;
        }
        if (!has(house.present, a)) {
            return STATE;
        }
        return house.keepCompanyOf(house.present & ~(1 << a));
    }

    public int laughter() {
        return house.stands() ? house.laughOf(house.present) : STATE;
    }

    public int heard(int corner) {
        if (!isCorner(corner)) {
            return OUTSIDE;
        }
        if (!house.stands()) {
            return STATE;
        }
        return carried(house.laughOf(house.present), house.corner, corner);
    }

    public int year(int sheet, int lane, int i, int n, int what) {
        lastFault = NO_FAULT;
        if (!isSheet(sheet)) {
            return UNKNOWN;
        }
        if (!isLane(lane) || !within(n, 0, MOST_PAIRS) || !within(what, 0, 5)) {
            return OUTSIDE;
        }
        Sheet row = sheets[sheet];
        int found = row.faultOfTaking(lane, i, 2 * n);
        if (found != NO_FAULT) {
            return failed(found);
        }
        if (!house.stands()) {
            return STATE;
        }
        int refusal = toldYear.refusalOf(row, i, n);
        if (refusal != 0) {
            return refusal;
        }
        toldYear.run(row, i, n);
        return toldYear.answer(what);
    }

    // ---- 3 rooms, calls

    public int packs(int set, int k) {
        if (!house.stands()) {
            return STATE;
        }
        if (!house.isSet(set) || !within(k, -1, MOST_ARTICLES - 1)) {
            return OUTSIDE;
        }
        packing.pack(set);
        return k < 0 ? packing.ways : packing.first[k];
    }

    public int fetch(int set) {
        if (!house.stands()) {
            return STATE;
        }
        if (!house.isSet(set)) {
            return OUTSIDE;
        }
        if ((set & ~house.present) != 0) {
            return STATE;
        }
        return house.fewestCalls(set, house.present);
    }

    public int lure(int a) {
        if (!house.isArticle(a)) {
            return UNKNOWN;
        }
        if (!has(house.present, a)) {
            return STATE;
        }
        return house.fewestCalls(1 << a, house.present & ~(1 << a));
    }

    // ---- 4 what was heard

    public int reading(int corner, int v) {
        if (!isCorner(corner) || !within(v, 0, MOST_HEARD)) {
            return OUTSIDE;
        }
        if (!house.stands()) {
            return STATE;
        }
        if (readings.count >= MOST_READINGS) {
            return FULL;
        }
        return readings.add(corner, v);
    }

    public int back(int k) {
        if (!within(k, 0, readings.count)) {
            return OUTSIDE;
        }
        readings.count -= k;
        return readings.count;
    }

    public int gaieties(int a) {
        if (!house.isArticle(a)) {
            return UNKNOWN;
        }
        int kind = house.articles[a].kind;
        int set = 0;
        for (int gaiety = 0; gaiety <= MOST_GAIETY; gaiety++) {
            if (readings.allAreSo(house.corner, house.laughIf(a, kind, gaiety))) {
                set |= 1 << gaiety;
            }
        }
        return set;
    }

    public int kinds(int a) {
        if (!house.isArticle(a)) {
            return UNKNOWN;
        }
        int gaiety = house.articles[a].gaiety;
        int set = 0;
        for (int kind = 0; kind < KINDS; kind++) {
            if (readings.allAreSo(house.corner, house.laughIf(a, kind, gaiety))) {
                set |= 1 << kind;
            }
        }
        return set;
    }

    public long wheres(int half) {
        if (!within(half, 0, 1) || !house.stands()) {
            return LOST;
        }
        int laugh = house.laughOf(house.present);
        long set = 0;
        for (int k = 0; k < HALF; k++) {
            if (readings.allAreSo(HALF * half + k, laugh)) {
                set |= 1L << k;
            }
        }
        return set;
    }

    public long odds(int a, int which) {
        if (!house.isArticle(a) || !within(which, 0, 1) || !has(house.present, a)) {
            return LOST;
        }
        int upper = house.setsThatLeave(a);
        int lower = 1 << Integer.bitCount(house.present);
        // The lower number is a power of two, so halving both is all that least terms need.
        for (int step = 0; step < MOST_ARTICLES && lower > 1 && (upper & 1) == 0; step++) {
            upper >>= 1;
            lower >>= 1;
        }
        return which == 0 ? upper : lower;
    }

    // ---- 5 sheets, parts

    public int sheet(int k, int lane, int n) {
        lastFault = NO_FAULT;
        if (!isSheet(k)) {
            return UNKNOWN;
        }
        if (!isLane(lane) || n > MOST_CELLS) {
            return OUTSIDE;
        }
        if (n < 0) {
            return failed(SIZE);
        }
        sheets[k].renew(lane, n);
        return 1;
    }

    public int lose(int k) {
        if (!isSheet(k)) {
            return UNKNOWN;
        }
        if (sheets[k].hasNothing()) {
            return 0;
        }
        sheets[k].clear();
        return 1;
    }

    public int put(int k, int i, int v) {
        lastFault = NO_FAULT;
        if (!isSheet(k)) {
            return UNKNOWN;
        }
        if (sheets[k].hasNothing()) {
            return failed(NULL);
        }
        if (!sheets[k].holds(i, 1)) {
            return failed(INDEX);
        }
        sheets[k].write(i, v);
        return 1;
    }

    public long cell(int k, int i, int lane) {
        lastFault = NO_FAULT;
        if (!isSheet(k) || !isLane(lane)) {
            return LOST;
        }
        lastFault = sheets[k].faultOfTaking(lane, i, 1);
        return lastFault == NO_FAULT ? sheets[k].at(i) : LOST;
    }

    public int copy(int k, int i, int other, int j, int n) {
        lastFault = NO_FAULT;
        if (!isSheet(k) || !isSheet(other)) {
            return UNKNOWN;
        }
        Sheet from = sheets[k];
        Sheet to = sheets[other];
        if (from.hasNothing() || to.hasNothing()) {
            return failed(NULL);
        }
        if (from.lane != to.lane) {
            return failed(CAST);
        }
        if (!from.holds(i, n) || !to.holds(j, n)) {
            return failed(INDEX);
        }
        System.arraycopy(from.cells, i, to.cells, j, n);
        return n;
    }

    public int tell(int a) {
        if (!house.isArticle(a)) {
            return UNKNOWN;
        }
        Article article = house.articles[a];
        switch (article.kind) {
            case PERSON: return tellAsPerson(article);
            case BEAST: return tellAsBeast(article);
            default: return tellAsThing(article);
        }
    }

    public int announce(int a) {
        if (!house.isArticle(a)) {
            return UNKNOWN;
        }
        if (house.articles[a].kind == PERSON) {
            begin(5);
            return 80;
        }
        begin(4);
        return a;
    }

    public int as(int a, int kind) {
        lastFault = NO_FAULT;
        if (!house.isArticle(a)) {
            return UNKNOWN;
        }
        if (!within(kind, THING, PERSON)) {
            return OUTSIDE;
        }
        // Each kind is also every kind of a lower number.
        return kind <= house.articles[a].kind ? 1 : failed(CAST);
    }

    public int trace() {
        return traced;
    }

    public int fault() {
        return lastFault;
    }

    public int many(int what) {
        switch (what) {
            case 0: return house.articleCount;
            case 1: return house.roomCount;
            case 2: return Integer.bitCount(house.present);
            case 3: return house.corner;
            case 4: return readings.count;
            default: return OUTSIDE;
        }
    }

    private int tellAsThing(Article article) {
        begin(1);
        return article.gaiety;
    }

    private int tellAsBeast(Article article) {
        begin(2);
        return tellAsThing(article) + 100;
    }

    private int tellAsPerson(Article article) {
        begin(3);
        int asBeast = tellAsBeast(article);
        return asBeast + tellAsThing(article);
    }

    private void begin(int body) {
        traced = 31 * traced + body;
    }

    private int failed(int found) {
        lastFault = found;
        return FAULTS_FROM - found;
    }

    private static boolean within(int v, int least, int most) {
        return v >= least && v <= most;
    }

    private static boolean has(int set, int k) {
        return (set >> k & 1) != 0;
    }

    private static boolean isSheet(int k) {
        return within(k, 0, SHEETS - 1);
    }

    private static boolean isLane(int lane) {
        return within(lane, BYTES, INTS);
    }

    private static boolean isCorner(int corner) {
        return within(corner, 0, CORNERS - 1);
    }

    /** What is left at a CORNER of a laugh in a house that STANDS at another one. */
    private static int carried(int laugh, int from, int corner) {
        int columns = Math.abs(from % SIDE - corner % SIDE);
        int rows = Math.abs(from / SIDE - corner / SIDE);
        return Math.max(0, laugh - columns - rows);
    }

    private static final class Article {
        int kind;
        int bulk;
        int gaiety;
        int longing;

        int laugh() {
            return laughOfKind(kind, gaiety);
        }

        static int laughOfKind(int kind, int gaiety) {
            switch (kind) {
                case PERSON: return 2 * gaiety;
                case BEAST: return gaiety > 0 ? gaiety - 1 : 0;
                default: return gaiety;
            }
        }
    }

    /** The house with its ROOMS and the ARTICLES of its CITY; without ARTICLES there is no CITY. */
    private static final class House {
        final Article[] articles;
        final int[] spaces;
        int articleCount;
        int roomCount;
        int corner;
        int present;

        House() {
            articles = new Article[MOST_ARTICLES];
            for (int a = 0; a < MOST_ARTICLES; a++) {
                articles[a] = new Article();
            }
            spaces = new int[MOST_ROOMS];
        }

        boolean stands() {
            return articleCount > 0;
        }

        boolean isArticle(int a) {
            return a >= 0 && a < articleCount;
        }

        boolean isRoom(int k) {
            return k >= 0 && k < roomCount;
        }

        boolean isSet(int set) {
            return set >= 0 && set < 1 << articleCount;
        }

        int laughOf(int set) {
            int sum = 0;
            for (int a = 0; a < articleCount; a++) {
                if (has(set, a)) {
                    sum += articles[a].laugh();
                }
            }
            return sum;
        }

        /** LAUGHTER, if one ARTICLE were of that kind and GAIETY; only one who is there is heard. */
        int laughIf(int a, int kind, int gaiety) {
            int others = laughOf(present & ~(1 << a));
            return has(present, a) ? others + Article.laughOfKind(kind, gaiety) : others;
        }

        int companyOf(int set) {
            int left = set;
            // Each round but the last takes one away at least.
            for (int round = 0; round < MOST_ARTICLES; round++) {
                int leaving = leaversOf(left);
                if (leaving == 0) {
                    break;
                }
                left &= ~leaving;
            }
            return left;
        }

        private int leaversOf(int set) {
            int all = laughOf(set);
            int leaving = 0;
            for (int a = 0; a < articleCount; a++) {
                if (has(set, a) && all - articles[a].laugh() < articles[a].longing) {
                    leaving |= 1 << a;
                }
            }
            return leaving;
        }

        /** Only the COMPANY of the set stays: who of it comes AWAY. */
        int keepCompanyOf(int set) {
            present = companyOf(set);
            return set & ~present;
        }

        /** The least set of the fewest CALLS, out of those that may be, that leave none wanted. */
        int fewestCalls(int wanted, int callable) {
            int best = NONE;
            int fewest = MOST_ARTICLES + 1;
            for (int called = 0; called <= callable; called++) {
                boolean fewer = (called & ~callable) == 0 && Integer.bitCount(called) < fewest;
                if (fewer && (companyOf(present & ~called) & wanted) == 0) {
                    best = called;
                    fewest = Integer.bitCount(called);
                }
            }
            return best;
        }

        /** How many sets of CALLS for some who are there have one left in the COMPANY of the rest. */
        int setsThatLeave(int a) {
            int count = 0;
            for (int called = 0; called <= present; called++) {
                if ((called & ~present) == 0 && has(companyOf(present & ~called), a)) {
                    count++;
                }
            }
            return count;
        }
    }

    /** A CITY's TEXT in cells of a row: looked through first, so that a wrong one changes nothing. */
    private static final class Text {
        private static final int HEAD = 4;
        private static final int ARTICLE_CODES = 6;

        /** The place of the FIRST FAULT; NONE: it is a TEXT. */
        static int firstFault(Sheet row, int from, int n) {
            int rooms = roomsIn(row, from, n);
            for (int p = 0; p < n; p++) {
                if (!goesOn(p, rooms, row.at(from + p))) {
                    return p;
                }
            }
            int behindRooms = n - HEAD - rooms;
            boolean whole = behindRooms > 0 && behindRooms % ARTICLE_CODES == 0;
            return whole ? NONE : n;
        }

        /** Of a TEXT without FAULTS alone. */
        static void build(House house, Sheet row, int from, int n) {
            int rooms = roomsIn(row, from, n);
            house.corner = SIDE * digit(row, from + 2) + digit(row, from + 1);
            house.roomCount = rooms;
            for (int k = 0; k < rooms; k++) {
                house.spaces[k] = digit(row, from + HEAD + k);
            }
            int start = from + HEAD + rooms;
            house.articleCount = Math.min((n - HEAD - rooms) / ARTICLE_CODES, MOST_ARTICLES);
            for (int a = 0; a < house.articleCount; a++) {
                fill(house.articles[a], row, start + a * ARTICLE_CODES);
            }
            house.present = 0;
        }

        private static void fill(Article article, Sheet row, int start) {
            article.kind = kindOf(row.at(start + 1));
            article.bulk = digit(row, start + 2);
            article.gaiety = digit(row, start + 3);
            article.longing = 10 * digit(row, start + 4) + digit(row, start + 5);
        }

        /** How many codes from the first ROOM's place on may be ROOMS. */
        private static int roomsIn(Sheet row, int from, int n) {
            int most = Math.min(MOST_ROOMS, n - HEAD);
            for (int k = 0; k < most; k++) {
                if (!isDigit(row.at(from + HEAD + k), 1, MOST_BULK_OR_SPACE)) {
                    return k;
                }
            }
            return Math.max(0, most);
        }

        private static boolean goesOn(int place, int rooms, int code) {
            if (place < HEAD) {
                return headGoesOn(place, code);
            }
            if (place < HEAD + rooms) {
                return true;
            }
            int behindRooms = place - HEAD - rooms;
            if (rooms == 0 || behindRooms >= MOST_ARTICLES * ARTICLE_CODES) {
                return false;
            }
            return articleGoesOn(behindRooms % ARTICLE_CODES, code);
        }

        private static boolean headGoesOn(int place, int code) {
            switch (place) {
                case 0: return code == 'v';
                case 3: return code == '/';
                default: return isDigit(code, 0, SIDE - 1);
            }
        }

        private static boolean articleGoesOn(int place, int code) {
            switch (place) {
                case 0: return code == ';';
                case 1: return kindOf(code) != NONE;
                case 2: return isDigit(code, 1, MOST_BULK_OR_SPACE);
                case 4: return isDigit(code, 0, MOST_LONGING / 10);
                default: return isDigit(code, 0, 9);
            }
        }

        private static int kindOf(int code) {
            switch (code) {
                case 't': return THING;
                case 'b': return BEAST;
                case 'p': return PERSON;
                default: return NONE;
            }
        }

        private static boolean isDigit(int code, int least, int most) {
            return within(code, '0' + least, '0' + most);
        }

        private static int digit(Sheet row, int i) {
            return row.at(i) - '0';
        }
    }

    /** A YEAR that is told: it goes on with a set of its own, the house is only asked. */
    private static final class Year {
        private final House house;
        private int present;
        private int away;
        private int greatest;
        private int wrong;

        Year(House house) {
            this.house = house;
        }

        /** 0: all pairs are an ARTICLE and what becomes of it. */
        int refusalOf(Sheet row, int from, int pairs) {
            for (int p = 0; p < pairs; p++) {
                if (!house.isArticle(row.at(from + 2 * p))) {
                    return UNKNOWN;
                }
                if (!within(row.at(from + 2 * p + 1), 0, 1)) {
                    return OUTSIDE;
                }
            }
            return 0;
        }

        void run(Sheet row, int from, int pairs) {
            present = house.present;
            away = 0;
            greatest = 0;
            wrong = NONE;
            for (int p = 0; p < pairs && wrong == NONE; p++) {
                int a = row.at(from + 2 * p);
                boolean called = row.at(from + 2 * p + 1) == 1;
                if (has(present, a) == called) {
                    go(called ? present & ~(1 << a) : present | 1 << a);
                } else {
                    wrong = p;
                }
            }
        }

        private void go(int set) {
            present = house.companyOf(set);
            away += Integer.bitCount(set & ~present);
            greatest = Math.max(greatest, house.laughOf(present));
        }

        int answer(int what) {
            if (what == 1) {
                return wrong;
            }
            if (wrong != NONE) {
                return PLACES_FROM - wrong;
            }
            switch (what) {
                case 0: return Integer.bitCount(present);
                case 2: return present;
                case 3: return away;
                case 4: return house.laughOf(present);
                default: return greatest;
            }
        }
    }

    /** PACKS of a set: how many, and the ROOMS of the first one. */
    private static final class Packing {
        private final House house;
        private final int[] loads;
        private final int[] tried;
        final int[] first;
        int ways;

        Packing(House house) {
            this.house = house;
            loads = new int[MOST_ROOMS];
            tried = new int[MOST_ARTICLES];
            first = new int[MOST_ARTICLES];
        }

        void pack(int set) {
            ways = 0;
            for (int k = 0; k < MOST_ROOMS; k++) {
                loads[k] = 0;
            }
            for (int a = 0; a < MOST_ARTICLES; a++) {
                tried[a] = NONE;
                first[a] = NONE;
            }
            placeFrom(0, set);
        }

        /** Goes through ARTICLES, then ROOMS, by their numbers, so that the first way is met first. */
        private void placeFrom(int a, int set) {
            if (!house.isArticle(a)) {
                countWay();
                return;
            }
            if (!has(set, a)) {
                placeFrom(a + 1, set);
                return;
            }
            int bulk = house.articles[a].bulk;
            for (int k = 0; k < house.roomCount; k++) {
                if (loads[k] + bulk <= house.spaces[k]) {
                    loads[k] += bulk;
                    tried[a] = k;
                    placeFrom(a + 1, set);
                    loads[k] -= bulk;
                }
            }
        }

        private void countWay() {
            if (ways == 0) {
                for (int a = 0; a < MOST_ARTICLES; a++) {
                    first[a] = tried[a];
                }
            }
            ways++;
        }
    }

    private static final class Readings {
        private final int[] corners;
        private final int[] values;
        int count;

        Readings() {
            corners = new int[MOST_READINGS];
            values = new int[MOST_READINGS];
        }

        int add(int corner, int v) {
            if (count >= MOST_READINGS) {
                return FULL;
            }
            corners[count] = corner;
            values[count] = v;
            count++;
            return count - 1;
        }

        /** Readings are held against who is there when one asks, so no set is kept with them. */
        boolean allAreSo(int from, int laugh) {
            for (int k = 0; k < count; k++) {
                if (carried(laugh, from, corners[k]) != values[k]) {
                    return false;
                }
            }
            return true;
        }
    }

    /** One row of cells for all LANES: a value is cut as it comes, so the cells can be ints. */
    private static final class Sheet {
        final int[] cells;
        int lane;
        private int size;

        Sheet() {
            cells = new int[MOST_CELLS];
            lane = NOTHING;
            size = 0;
        }

        boolean hasNothing() {
            return lane == NOTHING;
        }

        void clear() {
            lane = NOTHING;
            size = 0;
        }

        void renew(int newLane, int n) {
            lane = newLane;
            size = Math.max(0, Math.min(n, MOST_CELLS));
            for (int i = 0; i < size; i++) {
                cells[i] = 0;
            }
        }

        boolean holds(int i, int n) {
            return i >= 0 && i <= size && n >= 0 && n <= size - i;
        }

        /** The FAULT of taking n cells from i on as a row of a LANE; nothing is of every LANE. */
        int faultOfTaking(int asLane, int i, int n) {
            if (hasNothing()) {
                return NULL;
            }
            if (lane != asLane) {
                return CAST;
            }
            if (n < 0) {
                return SIZE;
            }
            return holds(i, n) ? NO_FAULT : INDEX;
        }

        int at(int i) {
            return i >= 0 && i < size ? cells[i] : 0;
        }

        void write(int i, int v) {
            if (i >= 0 && i < size) {
                cells[i] = cut(v);
            }
        }

        private int cut(int v) {
            switch (lane) {
                case BYTES: return (byte) v;
                case SHORTS: return (short) v;
                default: return v;
            }
        }
    }
}
