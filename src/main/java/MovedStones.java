import java.util.Arrays;

/** A marchland whose milestones are shifted by treaty; ../shared/DOC.md says what each call answers. */
public final class MovedStones {
    public static final int NONE = -1, UNKNOWN = -1000000001, OUTSIDE = -1000000002, NOT = -1000000003, FULL = -1000000004;

    private static final int MOST_LETTERS = 250;
    private static final int MOST_LETTER = 255;
    private static final int MOST_TOWNS = 6;
    private static final int MOST_COUNTIES = 4;
    private static final int MOST_SHIFT = 9;
    private static final int MOST_ROADS = 9;
    private static final int MOST_TREATIES = 6;
    private static final int MOST_MILES = 999;
    private static final int MOST_FEET = 99;
    private static final int MOST_MENDED = 4;
    private static final int MOST_WANTED = 5;
    private static final int MOST_JOURNEYS = 8;
    private static final int MOST_ENTRIES = 15;
    private static final int MOST_UNDONE = 20;
    private static final int MOST_YEARS = 99;
    private static final int LAST_YEAR = 9000;
    private static final int IMAGES = 2;
    // Farther than any way can be, and small enough that a road may be added to it.
    private static final int FAR = 1000000;

    private final Reader reader = new Reader();
    private Land land = new Land();
    private final State now = new State();
    private final History history = new History();
    private final Image[] images = {new Image(), new Image()};
    private int chance;
    private final Papers papers = new Papers();
    private final Ways ways = new Ways();
    private final Mender mender = new Mender();
    private final Nights nights = new Nights();
    private final Rounds rounds = new Rounds();
    private final int[] trial = new int[MOST_ROADS];

    public MovedStones() {
    }

    // ---- the march

    public int feed(int letter) {
        if (letter < 0 || letter > MOST_LETTER) {
            return OUTSIDE;
        }
        return reader.add(letter) ? reader.length : FULL;
    }

    public int march() {
        int fault = reader.read();
        if (fault != 0) {
            return -10 - fault;
        }
        land = reader.exchange(land);
        now.begin(land);
        papers.clear();
        history.clear();
        for (int i = 0; i < IMAGES; i++) {
            images[i].kept = false;
        }
        return land.roads;
    }

    public int fault() {
        return reader.faultAt;
    }

    public int told(int what) {
        switch (what) {
            case 0: return land.towns;
            case 1: return land.counties;
            case 2: return land.most;
            case 3: return land.roads;
            case 4: return land.treaties;
            case 5: return reader.length;
            case 6: return now.year;
            case 7: return rightful();
            case 8: return now.shifted;
            case 9: return land.holding(now.miles);
            case 10: return now.broken;
            case 11: return now.firstBroken;
            case 12: return now.firstYear;
            case 13: return land.sum(land.allRoads(), now.miles);
            case 14: return papers.journeys;
            case 15: return papers.entries;
            case 16: return papers.wantedSet();
            case 17: return history.count;
            default: return OUTSIDE;
        }
    }

    public int road(int r, int what) {
        if (!land.hasRoad(r)) {
            return UNKNOWN;
        }
        switch (what) {
            case 0: return land.from[r];
            case 1: return land.to[r];
            case 2: return land.feet[r];
            case 3: return now.miles[r];
            case 4: return land.miles[r];
            case 5: return land.owner[r];
            case 6: return papers.wanted[r] == 0 ? NONE : papers.wanted[r];
            default: return OUTSIDE;
        }
    }

    public int treaty(int t, int what) {
        if (t < 0 || t >= land.treaties) {
            return UNKNOWN;
        }
        switch (what) {
            case 0: return land.kind[t];
            case 1: return land.bound[t];
            case 2: return land.value[t];
            case 3: return land.sum(land.bound[t], now.miles);
            case 4: return land.holds(t, now.miles) ? 1 : 0;
            default: return OUTSIDE;
        }
    }

    // ---- what is done

    public int shift(int r, int d) {
        if (!land.hasRoad(r)) {
            return UNKNOWN;
        }
        if (d < -MOST_SHIFT || d > MOST_SHIFT || d == 0 || !isMiles(now.miles[r] + d)) {
            return OUTSIDE;
        }
        if (!isRightful(r, d)) {
            return NOT;
        }
        history.push(now);
        now.move(r, d);
        return now.miles[r];
    }

    public int year(int n) {
        int refusal = refuseYears(n);
        if (refusal != 0) {
            return refusal;
        }
        history.push(now);
        now.goBy(land, n);
        return now.year;
    }

    public int strike() {
        if (land.towns == 0) {
            return NOT;
        }
        history.push(now);
        return now.level(land);
    }

    public int drift(int n) {
        int refusal = refuseYears(n);
        if (refusal != 0) {
            return refusal;
        }
        history.push(now);
        for (int i = 0; i < n; i++) {
            driftOnce();
            now.goBy(land, 1);
        }
        return now.year;
    }

    public int undo() {
        if (history.count == 0) {
            return NOT;
        }
        history.pop(now);
        return history.count;
    }

    // ---- tried

    public int way(int a, int b, boolean byFeet) {
        if (!areTowns(a, b)) {
            return UNKNOWN;
        }
        return ways.least(land, byFeet ? land.feet : now.miles, a, b);
    }

    public int truly(int a, int b, int i) {
        if (!areTowns(a, b)) {
            return UNKNOWN;
        }
        if (!ways.go(land, now.miles, a, b)) {
            return NONE;
        }
        if (i == NONE) {
            return ways.together(land.feet);
        }
        return i >= 0 && i < ways.steps ? ways.route[i] : NONE;
    }

    public int adds() {
        for (int a = 0; a < land.towns; a++) {
            for (int b = a + 1; b < land.towns; b++) {
                for (int c = b + 1; c < land.towns; c++) {
                    if (isCrooked(a, b, c)) {
                        return 100 * a + 10 * b + c;
                    }
                }
            }
        }
        return NONE;
    }

    public int mend(int r) {
        if (r != NONE && !land.hasRoad(r)) {
            return UNKNOWN;
        }
        int fewest = mender.fewest(land, now.miles);
        if (fewest == NONE || r == NONE) {
            return fewest;
        }
        return mender.change[r] + 100;
    }

    public int want(int r, int miles) {
        if (!land.hasRoad(r)) {
            return UNKNOWN;
        }
        if (miles != 0 && !isMiles(miles)) {
            return OUTSIDE;
        }
        int others = papers.wantedSet() & ~(1 << r);
        if (miles != 0 && Integer.bitCount(others) >= MOST_WANTED) {
            return FULL;
        }
        papers.wanted[r] = miles;
        return Integer.bitCount(papers.wantedSet());
    }

    public int dawns(int i) {
        if (!nights.plan(land, now.miles, papers.wanted)) {
            return NONE;
        }
        if (i == NONE) {
            return nights.count;
        }
        return i >= 0 && i < nights.count ? nights.order[i] : NONE;
    }

    public int round(int what) {
        if (what < 0 || what > 2) {
            return OUTSIDE;
        }
        if (!rounds.seek(land, now.miles)) {
            return NONE;
        }
        if (what == 0) {
            return rounds.gain + 1000;
        }
        return what == 1 ? rounds.townSet : rounds.roadSet;
    }

    public int deceive(int a, int b) {
        if (!areTowns(a, b)) {
            return UNKNOWN;
        }
        if (!ways.go(land, now.miles, a, b)) {
            return NONE;
        }
        int most = ways.together(land.feet);
        int best = NONE;
        System.arraycopy(now.miles, 0, trial, 0, MOST_ROADS);
        for (int r = 0; r < land.roads; r++) {
            for (int more = 0; more <= 1; more++) {
                int feet = feetIfMoved(a, b, r, more == 1 ? 1 : -1);
                if (feet > most) {
                    most = feet;
                    best = 10 * r + more;
                }
            }
        }
        return best;
    }

    public int fee(int a, int b, int county) {
        if (!areTowns(a, b) || !land.hasCounty(county)) {
            return UNKNOWN;
        }
        if (!ways.go(land, now.miles, a, b)) {
            return NONE;
        }
        int all = ways.together(now.miles);
        return all > 0 ? 1000 * ways.ownedBy(land, now.miles, county) / all : NONE;
    }

    public int owes(int county) {
        if (!land.hasCounty(county)) {
            return UNKNOWN;
        }
        int owed = 1000;
        for (int r = 0; r < land.roads; r++) {
            if (land.owner[r] == county) {
                owed += now.miles[r] - land.feet[r];
            }
        }
        return owed;
    }

    public int clash() {
        for (int t = 0; t < land.treaties; t++) {
            for (int u = t + 1; u < land.treaties; u++) {
                if (land.bound[t] == land.bound[u] && !land.canBothHold(t, u)) {
                    return 10 * t + u;
                }
            }
        }
        return NONE;
    }

    public int rate(int a, int b) {
        if (!areTowns(a, b)) {
            return UNKNOWN;
        }
        int miles = ways.least(land, now.miles, a, b);
        return miles == NONE ? NONE : 2 + (miles - 1) / 10;
    }

    // ---- journeys, books, images

    public int journey(int set, int feet) {
        if ((set & ~land.allRoads()) != 0) {
            return UNKNOWN;
        }
        if (feet < 0 || feet > 999) {
            return OUTSIDE;
        }
        return papers.addJourney(set, feet) ? papers.journeys : FULL;
    }

    public int liars() {
        papers.weigh(land);
        if (papers.allAsTold()) {
            return 0;
        }
        int set = 0;
        for (int r = 0; r < land.roads; r++) {
            // Told feet don't fit here, so whatever fits is other than told.
            if (papers.leastFit(r, land.feet[r]) != NONE) {
                set |= 1 << r;
            }
        }
        return set;
    }

    public int fits(int r, int what) {
        if (!land.hasRoad(r)) {
            return UNKNOWN;
        }
        if (what != 0 && what != 1) {
            return OUTSIDE;
        }
        papers.weigh(land);
        return what == 0 ? papers.countFits(r, land.feet[r]) : papers.leastFit(r, land.feet[r]);
    }

    public int write(int r, int miles) {
        if (!land.hasRoad(r)) {
            return UNKNOWN;
        }
        if (!isMiles(miles)) {
            return OUTSIDE;
        }
        return papers.addEntry(r, miles) ? papers.entries : FULL;
    }

    public int tear() {
        int torn = papers.journeys + papers.entries;
        papers.clear();
        return torn;
    }

    public int judge() {
        return papers.firstWrong(now.miles);
    }

    public int seed(int v) {
        if (v < 0) {
            return OUTSIDE;
        }
        int old = chance;
        chance = v;
        return old;
    }

    public int keep(int i) {
        if (i < 0 || i >= IMAGES) {
            return UNKNOWN;
        }
        images[i].kept = true;
        images[i].state.copy(now);
        images[i].chance = chance;
        history.clear();
        return 1;
    }

    public int goBack(int i) {
        if (i < 0 || i >= IMAGES) {
            return UNKNOWN;
        }
        if (!images[i].kept) {
            return NOT;
        }
        now.copy(images[i].state);
        chance = images[i].chance;
        history.clear();
        return 1;
    }

    // ---- what the calls share

    private static boolean isMiles(int miles) {
        return miles >= 1 && miles <= MOST_MILES;
    }

    private boolean areTowns(int a, int b) {
        return land.hasTown(a) && land.hasTown(b) && a != b;
    }

    private int rightful() {
        return land.counties > 0 ? now.year % land.counties : 0;
    }

    private boolean isRightful(int r, int d) {
        return Math.abs(d) <= land.most && land.owner[r] == rightful() && (now.shifted >> r & 1) == 0;
    }

    private int refuseYears(int n) {
        if (n < 1 || n > MOST_YEARS) {
            return OUTSIDE;
        }
        if (land.towns == 0) {
            return NOT;
        }
        return now.year > LAST_YEAR ? FULL : 0;
    }

    private int draw(int n) {
        chance = (int) ((chance * 1103515245L + 12345L) & 0x7fffffffL);
        return n > 0 ? chance / 65536 % n : 0;
    }

    private void driftOnce() {
        if (draw(12) == 0) {
            now.level(land);
            return;
        }
        // Only the draw of a road hangs on there being roads: the other one is made all the same.
        int r = land.roads > 0 ? draw(land.roads) : NONE;
        int d = draw(2 * land.most + 1) - land.most;
        if (land.hasRoad(r) && d != 0 && isMiles(now.miles[r] + d) && isRightful(r, d)) {
            now.move(r, d);
        }
    }

    private boolean isCrooked(int a, int b, int c) {
        int ab = land.roadBetween(a, b);
        int bc = land.roadBetween(b, c);
        int ac = land.roadBetween(a, c);
        if (ab == NONE || bc == NONE || ac == NONE) {
            return false;
        }
        int longest = Math.max(now.miles[ab], Math.max(now.miles[bc], now.miles[ac]));
        return 2 * longest > now.miles[ab] + now.miles[bc] + now.miles[ac];
    }

    private int feetIfMoved(int a, int b, int r, int d) {
        if (!isMiles(now.miles[r] + d)) {
            return NONE;
        }
        trial[r] = now.miles[r] + d;
        int feet = ways.go(land, trial, a, b) ? ways.together(land.feet) : NONE;
        trial[r] = now.miles[r];
        return feet;
    }

    /** What the text tells: it stays as it is until the next march. */
    private static final class Land {
        int towns;
        int counties;
        int most;
        int roads;
        int treaties;
        final int[] from = new int[MOST_ROADS];
        final int[] to = new int[MOST_ROADS];
        final int[] feet = new int[MOST_ROADS];
        final int[] miles = new int[MOST_ROADS];
        final int[] owner = new int[MOST_ROADS];
        final int[] kind = new int[MOST_TREATIES];
        final int[] bound = new int[MOST_TREATIES];
        final int[] value = new int[MOST_TREATIES];

        void clear() {
            towns = 0;
            counties = 0;
            most = 0;
            roads = 0;
            treaties = 0;
        }

        boolean hasTown(int town) {
            return town >= 0 && town < towns;
        }

        boolean hasRoad(int r) {
            return r >= 0 && r < roads;
        }

        boolean hasCounty(int county) {
            return county >= 0 && county < counties;
        }

        int allRoads() {
            return (1 << roads) - 1;
        }

        int roadBetween(int a, int b) {
            for (int r = 0; r < roads; r++) {
                if (otherEnd(r, a) == b) {
                    return r;
                }
            }
            return NONE;
        }

        int otherEnd(int r, int town) {
            if (from[r] == town) {
                return to[r];
            }
            return to[r] == town ? from[r] : NONE;
        }

        int sum(int set, int[] lengths) {
            int all = 0;
            for (int r = 0; r < roads; r++) {
                if ((set >> r & 1) != 0) {
                    all += lengths[r];
                }
            }
            return all;
        }

        /** By how much this sum misses what the treaty asks. */
        int missing(int t, int sum) {
            int over = sum - value[t];
            if (kind[t] == 0) {
                return Math.abs(over);
            }
            return Math.max(0, kind[t] == 1 ? over : -over);
        }

        boolean holds(int t, int[] stones) {
            return missing(t, sum(bound[t], stones)) == 0;
        }

        int holding(int[] stones) {
            int set = 0;
            for (int t = 0; t < treaties; t++) {
                if (holds(t, stones)) {
                    set |= 1 << t;
                }
            }
            return set;
        }

        boolean canBothHold(int t, int u) {
            return Math.max(lowest(t), lowest(u)) <= Math.min(highest(t), highest(u));
        }

        private int lowest(int t) {
            int shortest = Integer.bitCount(bound[t]);
            return kind[t] == 1 ? shortest : Math.max(shortest, value[t]);
        }

        private int highest(int t) {
            return kind[t] == 2 ? FAR : value[t];
        }
    }

    /** The text; it is read into a land of its own, as a text with a fault must change nothing. */
    private static final class Reader {
        private final int[] letters = new int[MOST_LETTERS];
        private int at;
        private int fault;
        private int number;
        private int numberAt;
        private Land land = new Land();
        int length;
        int faultAt = NONE;

        boolean add(int letter) {
            if (length >= MOST_LETTERS) {
                return false;
            }
            letters[length] = letter;
            length++;
            return true;
        }

        /** Hands out the land that was read, and takes another one to read into. */
        Land exchange(Land old) {
            Land fresh = land;
            land = old;
            return fresh;
        }

        /** The number of the text's first fault, or 0; the text is empty then. */
        int read() {
            land.clear();
            at = 0;
            fault = 0;
            faultAt = NONE;
            skipBlanks();
            // Each clause takes a letter or has a fault.
            for (int clause = 0; clause < length && at < length && fault == 0; clause++) {
                readClause();
                skipBlanks();
            }
            length = 0;
            return fault;
        }

        private boolean fail(int kind, int where) {
            fault = kind;
            faultAt = where;
            return false;
        }

        private int letter() {
            return at < length ? letters[at] : NONE;
        }

        private boolean atFigure() {
            return at < length && letters[at] >= '0' && letters[at] <= '9';
        }

        private void skipBlanks() {
            while (at < length && letters[at] == ' ') {
                at++;
            }
        }

        private void readClause() {
            int word = letter();
            if (word == 'm' && land.towns == 0) {
                at++;
                readHead();
            } else if (word == 'r' && land.towns > 0 && land.roads < MOST_ROADS) {
                at++;
                readRoad();
            } else if (word == 't' && land.towns > 0 && land.treaties < MOST_TREATIES) {
                at++;
                readTreaty();
            } else {
                boolean isWord = word == 'm' || word == 'r' || word == 't';
                fail(isWord && land.towns > 0 ? 3 : 1, at);
            }
        }

        private boolean readNumber(int low, int high) {
            skipBlanks();
            if (!atFigure()) {
                return fail(1, at);
            }
            numberAt = at;
            number = 0;
            while (at < length && atFigure()) {
                if (at - numberAt < 3) {
                    number = 10 * number + letter() - '0';
                }
                at++;
            }
            if (at - numberAt > 3 || number < low || number > high) {
                return fail(2, numberAt);
            }
            return true;
        }

        private boolean readEnd() {
            skipBlanks();
            if (letter() != ';') {
                return fail(1, at);
            }
            at++;
            return true;
        }

        private void readHead() {
            if (!readNumber(2, MOST_TOWNS)) {
                return;
            }
            land.towns = number;
            if (!readNumber(1, MOST_COUNTIES)) {
                return;
            }
            land.counties = number;
            if (readNumber(1, MOST_SHIFT)) {
                land.most = number;
                readEnd();
            }
        }

        private void readRoad() {
            int r = land.roads;
            if (!readNumber(0, land.towns - 1)) {
                return;
            }
            land.from[r] = number;
            if (!readNumber(0, land.towns - 1)) {
                return;
            }
            land.to[r] = number;
            if (land.from[r] == number || land.roadBetween(land.from[r], number) != NONE) {
                fail(4, numberAt);
                return;
            }
            if (!readNumber(1, MOST_FEET)) {
                return;
            }
            land.feet[r] = number;
            if (!readNumber(1, MOST_FEET)) {
                return;
            }
            land.miles[r] = number;
            if (readNumber(0, land.counties - 1)) {
                land.owner[r] = number;
                if (readEnd()) {
                    land.roads++;
                }
            }
        }

        private void readTreaty() {
            int t = land.treaties;
            if (!readNumber(0, 2)) {
                return;
            }
            land.kind[t] = number;
            if (!readBound(t) || !readNumber(0, MOST_MILES)) {
                return;
            }
            land.value[t] = number;
            if (readEnd()) {
                land.treaties++;
            }
        }

        private boolean readBound(int t) {
            int last = NONE;
            land.bound[t] = 0;
            // Rising roads come to an end, so one round more than there are roads has a fault.
            for (int n = 0; n <= MOST_ROADS; n++) {
                if (!readNumber(0, land.roads - 1)) {
                    return false;
                }
                if (number <= last) {
                    return fail(4, numberAt);
                }
                last = number;
                land.bound[t] |= 1 << number;
                skipBlanks();
                if (letter() != ',') {
                    return true;
                }
                at++;
            }
            return false;
        }
    }

    /** What years and shifts change. */
    private static final class State {
        final int[] miles = new int[MOST_ROADS];
        int shifted;
        int year;
        int broken;
        int firstBroken = NONE;
        int firstYear = NONE;

        void begin(Land land) {
            System.arraycopy(land.miles, 0, miles, 0, MOST_ROADS);
            shifted = 0;
            year = 0;
            broken = 0;
            firstBroken = NONE;
            firstYear = NONE;
        }

        void copy(State other) {
            System.arraycopy(other.miles, 0, miles, 0, MOST_ROADS);
            shifted = other.shifted;
            year = other.year;
            broken = other.broken;
            firstBroken = other.firstBroken;
            firstYear = other.firstYear;
        }

        void move(int r, int d) {
            miles[r] += d;
            shifted |= 1 << r;
        }

        /** No stone moves meanwhile, so what these years break is broken in the first of them. */
        void goBy(Land land, int years) {
            int holding = land.holding(miles);
            for (int t = 0; t < land.treaties; t++) {
                if ((holding >> t & 1) == 0) {
                    breakTreaty(t);
                }
            }
            shifted = 0;
            year += years;
        }

        private void breakTreaty(int t) {
            if (firstBroken == NONE) {
                firstBroken = t;
                firstYear = year;
            }
            broken |= 1 << t;
        }

        /** A strike: how many roads had other miles than feet. */
        int level(Land land) {
            int others = 0;
            for (int r = 0; r < land.roads; r++) {
                if (miles[r] != land.feet[r]) {
                    others++;
                    miles[r] = land.feet[r];
                }
            }
            shifted = 0;
            return others;
        }
    }

    /** The latest states, in a ring so that the oldest is lost. */
    private static final class History {
        private final State[] states = new State[MOST_UNDONE];
        private int next;
        int count;

        void clear() {
            count = 0;
        }

        void push(State state) {
            if (states[next] == null) {
                states[next] = new State();
            }
            states[next].copy(state);
            next = (next + 1) % MOST_UNDONE;
            count = Math.min(count + 1, MOST_UNDONE);
        }

        void pop(State into) {
            int latest = (next + MOST_UNDONE - 1) % MOST_UNDONE;
            if (count > 0 && states[latest] != null) {
                into.copy(states[latest]);
                next = latest;
                count--;
            }
        }
    }

    /** A state that was kept, with the seed of that time. */
    private static final class Image {
        final State state = new State();
        int chance;
        boolean kept;
    }

    /** Wishes, journeys and the book. */
    private static final class Papers {
        final int[] wanted = new int[MOST_ROADS];
        private final int[] sets = new int[MOST_JOURNEYS];
        private final int[] feet = new int[MOST_JOURNEYS];
        // By how much each journey was longer than the feet that are told.
        private final int[] over = new int[MOST_JOURNEYS];
        int journeys;
        private final int[] bookRoads = new int[MOST_ENTRIES];
        private final int[] bookMiles = new int[MOST_ENTRIES];
        int entries;

        void clear() {
            Arrays.fill(wanted, 0);
            journeys = 0;
            entries = 0;
        }

        int wantedSet() {
            int set = 0;
            for (int r = 0; r < MOST_ROADS; r++) {
                if (wanted[r] != 0) {
                    set |= 1 << r;
                }
            }
            return set;
        }

        boolean addJourney(int set, int length) {
            if (journeys >= MOST_JOURNEYS) {
                return false;
            }
            sets[journeys] = set;
            feet[journeys] = length;
            journeys++;
            return true;
        }

        boolean addEntry(int r, int miles) {
            if (entries >= MOST_ENTRIES) {
                return false;
            }
            bookRoads[entries] = r;
            bookMiles[entries] = miles;
            entries++;
            return true;
        }

        int firstWrong(int[] miles) {
            for (int e = 0; e < entries; e++) {
                if (miles[bookRoads[e]] != bookMiles[e]) {
                    return e;
                }
            }
            return NONE;
        }

        void weigh(Land land) {
            for (int j = 0; j < journeys; j++) {
                over[j] = feet[j] - land.sum(sets[j], land.feet);
            }
        }

        boolean allAsTold() {
            for (int j = 0; j < journeys; j++) {
                if (over[j] != 0) {
                    return false;
                }
            }
            return true;
        }

        private boolean isFit(int r, int more) {
            for (int j = 0; j < journeys; j++) {
                if (over[j] != ((sets[j] >> r & 1) == 0 ? 0 : more)) {
                    return false;
                }
            }
            return true;
        }

        int leastFit(int r, int asTold) {
            for (int f = 1; f <= MOST_FEET; f++) {
                if (isFit(r, f - asTold)) {
                    return f;
                }
            }
            return NONE;
        }

        int countFits(int r, int asTold) {
            int count = 0;
            for (int f = 1; f <= MOST_FEET; f++) {
                if (isFit(r, f - asTold)) {
                    count++;
                }
            }
            return count;
        }
    }

    /** The least way, and the first of like ones. */
    private static final class Ways {
        private final int[] ahead = new int[MOST_TOWNS];
        final int[] route = new int[MOST_TOWNS];
        int steps;

        int least(Land land, int[] lengths, int a, int b) {
            measure(land, lengths, b);
            return ahead[a] < FAR ? ahead[a] : NONE;
        }

        /** Leaves the roads in route, if there is a way. */
        boolean go(Land land, int[] miles, int a, int b) {
            steps = 0;
            if (least(land, miles, a, b) == NONE) {
                return false;
            }
            int town = a;
            for (int n = 0; n < MOST_TOWNS && town != b; n++) {
                int r = firstOnward(land, miles, town);
                if (r == NONE) {
                    return false;
                }
                route[steps] = r;
                steps++;
                town = land.otherEnd(r, town);
            }
            return town == b;
        }

        int together(int[] lengths) {
            int all = 0;
            for (int n = 0; n < steps; n++) {
                all += lengths[route[n]];
            }
            return all;
        }

        int ownedBy(Land land, int[] lengths, int county) {
            int all = 0;
            for (int n = 0; n < steps; n++) {
                if (land.owner[route[n]] == county) {
                    all += lengths[route[n]];
                }
            }
            return all;
        }

        /** What is still ahead from each town to the goal; a least way has fewer roads than there are towns. */
        private void measure(Land land, int[] lengths, int goal) {
            Arrays.fill(ahead, FAR);
            ahead[goal] = 0;
            for (int n = 1; n < land.towns; n++) {
                for (int r = 0; r < land.roads; r++) {
                    int a = land.from[r];
                    int b = land.to[r];
                    ahead[a] = Math.min(ahead[a], ahead[b] + lengths[r]);
                    ahead[b] = Math.min(ahead[b], ahead[a] + lengths[r]);
                }
            }
        }

        private int firstOnward(Land land, int[] lengths, int town) {
            for (int r = 0; r < land.roads; r++) {
                int other = land.otherEnd(r, town);
                if (other != NONE && ahead[other] + lengths[r] == ahead[town]) {
                    return r;
                }
            }
            return NONE;
        }
    }

    /** The fewest changes of miles by which all treaties hold. */
    private static final class Mender {
        final int[] change = new int[MOST_ROADS];
        private final int[] sums = new int[MOST_TREATIES];

        int fewest(Land land, int[] miles) {
            for (int total = 0; total <= MOST_MENDED; total++) {
                for (int t = 0; t < land.treaties; t++) {
                    sums[t] = land.sum(land.bound[t], miles);
                }
                if (spread(land, miles, 0, total)) {
                    return total;
                }
            }
            return NONE;
        }

        /** Spreads all miles that are left over this road and those behind it. */
        private boolean spread(Land land, int[] miles, int r, int left) {
            if (!canHold(land, r, left)) {
                return false;
            }
            if (r >= land.roads) {
                return left == 0;
            }
            for (int d = -left; d <= left; d++) {
                if (!isMiles(miles[r] + d)) {
                    continue;
                }
                change[r] = d;
                alter(land, r, d);
                if (spread(land, miles, r + 1, left - Math.abs(d))) {
                    return true;
                }
                alter(land, r, -d);
            }
            return false;
        }

        private boolean canHold(Land land, int r, int left) {
            for (int t = 0; t < land.treaties; t++) {
                int reach = land.bound[t] >> r == 0 ? 0 : left;
                if (land.missing(t, sums[t]) > reach) {
                    return false;
                }
            }
            return true;
        }

        private void alter(Land land, int r, int d) {
            for (int t = 0; t < land.treaties; t++) {
                if ((land.bound[t] >> r & 1) != 0) {
                    sums[t] += d;
                }
            }
        }
    }

    /** The first order of nights by which each dawn what holds now holds still. */
    private static final class Nights {
        final int[] order = new int[MOST_WANTED];
        int count;
        private final int[] stones = new int[MOST_ROADS];
        private int kept;

        boolean plan(Land land, int[] miles, int[] wanted) {
            System.arraycopy(miles, 0, stones, 0, MOST_ROADS);
            kept = land.holding(miles);
            int open = 0;
            for (int r = 0; r < land.roads; r++) {
                if (wanted[r] != 0 && wanted[r] != miles[r]) {
                    open |= 1 << r;
                }
            }
            count = Integer.bitCount(open);
            return place(land, wanted, open, 0);
        }

        private boolean place(Land land, int[] wanted, int open, int night) {
            if (open == 0 || night >= MOST_WANTED) {
                return open == 0;
            }
            for (int r = 0; r < land.roads; r++) {
                if ((open >> r & 1) == 0) {
                    continue;
                }
                int before = stones[r];
                stones[r] = wanted[r];
                order[night] = r;
                if ((kept & ~land.holding(stones)) == 0 && place(land, wanted, open & ~(1 << r), night + 1)) {
                    return true;
                }
                stones[r] = before;
            }
            return false;
        }
    }

    /** The carter's best round. */
    private static final class Rounds {
        int gain;
        int townSet;
        int roadSet;
        private int start;

        boolean seek(Land land, int[] miles) {
            townSet = 0;
            roadSet = 0;
            gain = 0;
            // Each round is found from its least town on.
            for (int town = 0; town < land.towns; town++) {
                start = town;
                extend(land, miles, town, 1 << town, 0, 0);
            }
            return roadSet != 0;
        }

        /** Goes on from a town; no town comes twice, so it is never more than MOST_TOWNS deep. */
        private void extend(Land land, int[] miles, int town, int towns, int roads, int paid) {
            if (Integer.bitCount(towns) > MOST_TOWNS) {
                return;
            }
            for (int r = 0; r < land.roads; r++) {
                int other = land.otherEnd(r, town);
                int more = paid + miles[r] - land.feet[r];
                if (other == start && Integer.bitCount(towns) >= 3) {
                    compare(towns, roads | 1 << r, more);
                } else if (other > start && (towns >> other & 1) == 0) {
                    extend(land, miles, other, towns | 1 << other, roads | 1 << r, more);
                }
            }
        }

        private void compare(int towns, int roads, int paid) {
            boolean better = roadSet == 0 || paid > gain;
            if (!better && paid == gain) {
                better = towns < townSet || towns == townSet && roads < roadSet;
            }
            if (better) {
                gain = paid;
                townSet = towns;
                roadSet = roads;
            }
        }
    }
}
