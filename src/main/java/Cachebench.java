import java.util.Arrays;
import java.util.NoSuchElementException;

/**
 * Caches side by side, fed with one row of requests. What each call promises is told in DOC.md.
 *
 * <p>A set of keys is an int with a bit for each key. Indexes that come from data go through
 * at() and put(), so that no access can make the machine itself throw.
 */
public final class Cachebench {

    public static final int NONE = -1;
    public static final int LAST_USE = 0, FEWEST = 1, FIRST_IN = 2, SECOND_CHANCE = 3, TWO_QUEUES = 4,
            LEAST_COST = 5, ADAPTING = 6;

    private static final int KEYS = 26, OWNERS = 4, CACHES = 6;
    private static final int MOST_SIZE = 8, MOST_COST = 1000, MOST_ROOM = 20, MOST_MINUTES = 1000, MOST_DRAWN = 50;
    private static final int LONGEST_ROW = 300, LONGEST_TEXT = 200, MOST_UNDONE = 6;
    private static final int KEEPS_WRITES = 1, FETCHES = 2, MOST_MODE = 3;
    private static final int HIT = 0, CAME_IN = 1, PASSED_BY = 2;
    private static final int HITS = 0, MISSES = 1, PUT_OUT = 2, LAPSED = 3, WRITINGS = 4, PASSES = 5, FETCHED = 6,
            USEFUL = 7, COSTS = 8, COUNTS = 9;
    /** 840 is divided by every size of a key, so that a worth is a whole number. */
    private static final int WORTH_OF_COST = 840;

    private final Bench bench = new Bench();
    private final Bench[] past = new Bench[MOST_UNDONE];
    private int pastEnd;
    private int pastLength;
    private final Cursor cursor = new Cursor();
    private final Text text = new Text();
    private final Study study = new Study();
    private final ShameSearch search = new ShameSearch();

    public Cachebench() {
    }

    // ---- Changes

    public int setKey(int key, int size, int cost, int owner)
            throws IndexOutOfBoundsException, IllegalArgumentException, IllegalStateException {
        checkKey(key);
        checkRange(size, 1, MOST_SIZE);
        checkRange(cost, 0, MOST_COST);
        checkRange(owner, 0, OWNERS - 1);
        if (bench.isAnywhere(key)) {
            throw new IllegalStateException();
        }
        beginChange();
        return bench.keys.tell(key, size, cost, owner);
    }

    public int pass(int minutes) throws IllegalArgumentException {
        checkRange(minutes, 1, MOST_MINUTES);
        beginChange();
        bench.time += minutes;
        return bench.lapseAt(bench.time);
    }

    public int request(int key, boolean isWrite) throws IndexOutOfBoundsException, IllegalStateException {
        checkKey(key);
        checkRowTakes(1);
        beginChange();
        return bench.ask(key, isWrite);
    }

    public int draw(int seed, int many, int keys, int writes)
            throws IllegalArgumentException, IllegalStateException {
        checkRange(many, 1, MOST_DRAWN);
        checkRange(keys, 1, KEYS);
        checkRange(writes, 0, 100);
        checkRowTakes(many);
        beginChange();
        int hitsSoFar = 0;
        int x = seed;
        for (int drawn = 0; drawn < many; drawn++) {
            x = nextDraw(x);
            int key = keys > 0 ? (x >>> 16) % keys : 0;
            x = nextDraw(x);
            boolean isWrite = (x >>> 16) % 100 < writes;
            hitsSoFar += Integer.bitCount(bench.ask(key, isWrite));
        }
        return hitsSoFar;
    }

    public int run() throws IllegalArgumentException, IllegalStateException {
        if (text.findError() != NONE) {
            throw new IllegalArgumentException();
        }
        int many = text.told;
        checkRowTakes(many);
        beginChange();
        for (int place = 0; place < many && place < LONGEST_ROW; place++) {
            bench.ask(at(text.toldKeys, place), at(text.toldWrites, place) != 0);
        }
        return many;
    }

    public int clearRow() {
        beginChange();
        int before = bench.row.length;
        bench.row.length = 0;
        bench.emptyCaches();
        return before;
    }

    public int setCache(int cache, int rule, int room, int lapse, int mode)
            throws IndexOutOfBoundsException, IllegalArgumentException {
        checkCache(cache);
        checkRange(rule, LAST_USE, ADAPTING);
        checkRange(room, 1, MOST_ROOM);
        checkRange(lapse, 0, MOST_MINUTES);
        checkRange(mode, 0, MOST_MODE);
        beginChange();
        Cache changed = bench.cache(cache);
        int before = Integer.bitCount(changed.held);
        changed.setUp(rule, room, lapse, mode);
        changed.empty(bench.row.length);
        return before;
    }

    public int setShares(int cache, int first, int second, int third, int fourth)
            throws IndexOutOfBoundsException, IllegalArgumentException {
        checkCache(cache);
        Cache changed = bench.cache(cache);
        checkRange(first, 0, changed.room);
        checkRange(second, 0, changed.room - first);
        checkRange(third, 0, changed.room - first - second);
        checkRange(fourth, 0, changed.room - first - second - third);
        beginChange();
        changed.share(first, second, third, fourth);
        return Integer.bitCount(changed.ownersBeyond(bench.keys, changed.held));
    }

    public int flush(int cache) throws IndexOutOfBoundsException {
        checkCache(cache);
        beginChange();
        return bench.cache(cache).writeDirty();
    }

    public boolean drop(int cache, int key) throws IndexOutOfBoundsException, NoSuchElementException {
        checkCache(cache);
        checkKey(key);
        Cache changed = bench.cache(cache);
        if (!has(changed.held, key)) {
            throw new NoSuchElementException();
        }
        beginChange();
        boolean wasDirty = has(changed.dirty, key);
        changed.takeOut(key);
        return wasDirty;
    }

    public int replay() {
        beginChange();
        return bench.feedAnew();
    }

    public int dropTold() throws IllegalStateException {
        if (!cursor.canDrop) {
            throw new IllegalStateException();
        }
        keepForUndo();
        cursor.canDrop = false;
        int key = cursor.lastTold();
        bench.cache(cursor.cache).takeOut(key);
        return key;
    }

    public int undo() throws IllegalStateException {
        if (pastLength <= 0) {
            throw new IllegalStateException();
        }
        cursor.close();
        pastLength--;
        pastEnd = pastEnd <= 0 ? MOST_UNDONE - 1 : pastEnd - 1;
        Bench before = pastEnd < past.length ? past[pastEnd] : null;
        if (before != null) {
            bench.copyBench(before);
        }
        return pastLength;
    }

    // ---- the cursor

    public int open(int cache) throws IndexOutOfBoundsException {
        checkCache(cache);
        cursor.openOn(cache, bench.cache(cache));
        return cursor.length;
    }

    public int next() throws IllegalStateException, NoSuchElementException {
        if (!cursor.isOpen) {
            throw new IllegalStateException();
        }
        if (cursor.told >= cursor.length) {
            throw new NoSuchElementException();
        }
        cursor.told++;
        cursor.canDrop = true;
        return cursor.lastTold();
    }

    // ---- text

    public int type(int c) throws IllegalArgumentException, IllegalStateException {
        checkRange(c, 0, 255);
        if (text.length >= LONGEST_TEXT) {
            throw new IllegalStateException();
        }
        put(text.bytes, text.length, c);
        text.length++;
        return text.length;
    }

    public int clearText() {
        int before = text.length;
        text.length = 0;
        return before;
    }

    public int errorPlace() {
        return text.findError();
    }

    // ---- keys, the row

    public int keyAt(int key, int what) throws IndexOutOfBoundsException, IllegalArgumentException {
        checkKey(key);
        checkRange(what, 0, 3);
        switch (what) {
            case 0: return at(bench.keys.size, key);
            case 1: return at(bench.keys.cost, key);
            case 2: return at(bench.keys.owner, key);
            default: return bench.row.timesAsked(key);
        }
    }

    public int now() {
        return bench.time;
    }

    public int rowLength() {
        return bench.row.length;
    }

    public int requestAt(int request, int what) throws IndexOutOfBoundsException, IllegalArgumentException {
        checkRequest(request);
        checkRange(what, 0, 2);
        switch (what) {
            case 0: return at(bench.row.key, request);
            case 1: return at(bench.row.write, request);
            default: return at(bench.row.minute, request);
        }
    }

    // ---- caches

    public boolean holds(int cache, int key) throws IndexOutOfBoundsException {
        checkCache(cache);
        checkKey(key);
        return has(bench.cache(cache).held, key);
    }

    public boolean isDirty(int cache, int key) throws IndexOutOfBoundsException {
        checkCache(cache);
        checkKey(key);
        return has(bench.cache(cache).dirty, key);
    }

    public int cacheAt(int cache, int what) throws IndexOutOfBoundsException, IllegalArgumentException {
        checkCache(cache);
        checkRange(what, 0, 7);
        Cache asked = bench.cache(cache);
        switch (what) {
            case 0: return asked.rule;
            case 1: return asked.room;
            case 2: return asked.lapse;
            case 3: return asked.mode;
            case 4: return Integer.bitCount(asked.held);
            case 5: return bench.keys.units(asked.held);
            case 6: return Integer.bitCount(asked.dirty);
            default: return Integer.bitCount(asked.remembered);
        }
    }

    public int ownerAt(int cache, int owner, boolean isShare)
            throws IndexOutOfBoundsException, IllegalArgumentException {
        checkCache(cache);
        checkRange(owner, 0, OWNERS - 1);
        Cache asked = bench.cache(cache);
        return isShare ? at(asked.shares, owner) : bench.keys.units(asked.held & bench.keys.ofOwner(owner));
    }

    public int keyInOrder(int cache, int place) throws IndexOutOfBoundsException, NoSuchElementException {
        checkCache(cache);
        Cache asked = bench.cache(cache);
        if (place < 0 || place >= Integer.bitCount(asked.held)) {
            throw new NoSuchElementException();
        }
        int left = asked.held;
        for (int ahead = 0; ahead < place; ahead++) {
            left &= ~bit(asked.firstOf(left));
        }
        return asked.firstOf(left);
    }

    public int victim(int cache, int key) throws IndexOutOfBoundsException {
        checkCache(cache);
        checkKey(key);
        return bench.cache(cache).firstOutFor(bench.keys, key);
    }

    public int count(int cache, int what) throws IndexOutOfBoundsException, IllegalArgumentException {
        checkCache(cache);
        checkRange(what, 0, COUNTS - 1);
        return at(bench.cache(cache).tally.counts, what);
    }

    public int countOf(int cache, int key, boolean areHits) throws IndexOutOfBoundsException {
        checkCache(cache);
        checkKey(key);
        Tally asked = bench.cache(cache).tally;
        return at(areHits ? asked.hitsOf : asked.missesOf, key);
    }

    public int outcome(int cache, int request) throws IndexOutOfBoundsException {
        checkCache(cache);
        checkRequest(request);
        return bench.cache(cache).tally.outcomeAt(request);
    }

    public int hitsBetween(int cache, int from, int to) throws IndexOutOfBoundsException, IllegalArgumentException {
        checkCache(cache);
        checkRequest(from);
        checkRequest(to);
        if (to < from) {
            throw new IllegalArgumentException();
        }
        Tally asked = bench.cache(cache).tally;
        int found = 0;
        for (int request = from; request <= to && request < LONGEST_ROW; request++) {
            if (asked.outcomeAt(request) == HIT) {
                found++;
            }
        }
        return found;
    }

    public long worth(int cache, int key)
            throws IndexOutOfBoundsException, IllegalArgumentException, NoSuchElementException {
        checkCache(cache);
        if (key != NONE) {
            checkKey(key);
        }
        checkRule(cache, LEAST_COST);
        Cache asked = bench.cache(cache);
        if (key == NONE) {
            return asked.level;
        }
        if (!has(asked.held, key)) {
            throw new NoSuchElementException();
        }
        return at(asked.worth, key);
    }

    public boolean remembers(int cache, int key) throws IndexOutOfBoundsException, IllegalArgumentException {
        checkCache(cache);
        checkKey(key);
        checkRule(cache, TWO_QUEUES);
        return has(bench.cache(cache).remembered, key);
    }

    public int leaning(int cache) throws IndexOutOfBoundsException, IllegalArgumentException {
        checkCache(cache);
        checkRule(cache, ADAPTING);
        return bench.cache(cache).leansToLastUse() ? LAST_USE : FEWEST;
    }

    // ---- the row itself (section 5)

    public int distance(int request) throws IndexOutOfBoundsException {
        checkRequest(request);
        return bench.row.distanceOf(request);
    }

    public int hits(int rule, int size) throws IllegalArgumentException {
        checkStudyRule(rule);
        checkRange(size, 1, KEYS);
        return study.hitsBy(bench.row, rule, size);
    }

    public boolean holdsAfter(int rule, int size, int requests, int key)
            throws IndexOutOfBoundsException, IllegalArgumentException {
        checkKey(key);
        checkStudyRule(rule);
        checkRange(size, 1, KEYS);
        checkRange(requests, 0, bench.row.length);
        study.feed(bench.row, rule, size, requests);
        return has(study.held, key);
    }

    public int bestVictim(int size, int request) throws IndexOutOfBoundsException, IllegalArgumentException {
        checkRequest(request);
        checkRange(size, 1, KEYS);
        study.feed(bench.row, NONE, size, request + 1);
        return study.lastOut;
    }

    public int phases(int size) throws IllegalArgumentException {
        checkRange(size, 1, KEYS);
        return bench.row.phasesUpTo(size, bench.row.length);
    }

    public int phaseOf(int size, int request) throws IndexOutOfBoundsException, IllegalArgumentException {
        checkRequest(request);
        checkRange(size, 1, KEYS);
        return bench.row.phasesUpTo(size, request + 1) - 1;
    }

    public int slack(int size, int other) throws IllegalArgumentException {
        checkRange(size, 1, KEYS);
        checkRange(other, 1, size);
        int missesByUse = bench.row.length - study.hitsBy(bench.row, LAST_USE, size);
        int missesOfBest = bench.row.length - study.hitsBy(bench.row, NONE, other);
        int more = size - other + 1;
        return size * missesOfBest + more * other - more * missesByUse;
    }

    public int shame(int rule, int room, int greater, int keys, int most) throws IllegalArgumentException {
        checkRange(rule, FIRST_IN, SECOND_CHANCE);
        checkRange(room, 1, 4);
        checkRange(greater, room + 1, 6);
        checkRange(keys, 2, 5);
        checkRange(most, 1, rule == SECOND_CHANCE ? 9 : ShameSearch.LONGEST);
        return search.look(rule == SECOND_CHANCE, room, greater, keys, most);
    }

    public int shameAt(int place) throws NoSuchElementException {
        if (place < 0 || place >= search.foundLength) {
            throw new NoSuchElementException();
        }
        return at(search.found, place);
    }

    // ---- measures

    public double hitShare(int cache) throws IndexOutOfBoundsException {
        checkCache(cache);
        int[] counts = bench.cache(cache).tally.counts;
        int hitsSoFar = at(counts, HITS);
        int all = hitsSoFar + at(counts, MISSES);
        return all > 0 ? (double) hitsSoFar / (double) all : 0.0;
    }

    public float meanDistance() {
        int sum = 0;
        int many = 0;
        for (int request = 0; request < bench.row.length && request < LONGEST_ROW; request++) {
            int far = bench.row.distanceOf(request);
            if (far != NONE) {
                sum += far;
                many++;
            }
        }
        return many > 0 ? (float) sum / (float) many : 0.0f;
    }

    public int errors() {
        return study.brokenSizes(bench.row);
    }

    // ---- what the calls have in common

    private static void checkKey(int key) {
        if (key < 0 || key >= KEYS) {
            throw new IndexOutOfBoundsException();
        }
    }

    private static void checkCache(int cache) {
        if (cache < 0 || cache >= CACHES) {
            throw new IndexOutOfBoundsException();
        }
    }

    private void checkRequest(int request) {
        if (request < 0 || request >= bench.row.length) {
            throw new IndexOutOfBoundsException();
        }
    }

    private static void checkRange(int number, int least, int most) {
        if (number < least || number > most) {
            throw new IllegalArgumentException();
        }
    }

    private void checkRule(int cache, int rule) {
        if (bench.cache(cache).rule != rule) {
            throw new IllegalArgumentException();
        }
    }

    private static void checkStudyRule(int rule) {
        if (rule != NONE && rule != LAST_USE && rule != FEWEST && rule != FIRST_IN) {
            throw new IllegalArgumentException();
        }
    }

    private void checkRowTakes(int many) {
        if (many > LONGEST_ROW - bench.row.length) {
            throw new IllegalStateException();
        }
    }

    private void beginChange() {
        cursor.close();
        keepForUndo();
    }

    /** The places of the past are made when first needed: most benches see few changes. */
    private void keepForUndo() {
        int slot = pastEnd >= 0 && pastEnd < past.length ? pastEnd : 0;
        Bench kept = past[slot];
        if (kept == null) {
            kept = new Bench();
            past[slot] = kept;
        }
        kept.copyBench(bench);
        pastEnd = slot + 1 < MOST_UNDONE ? slot + 1 : 0;
        pastLength = pastLength < MOST_UNDONE ? pastLength + 1 : MOST_UNDONE;
    }

    private static int nextDraw(int x) {
        return x * 1103515245 + 12345;
    }

    private static int bit(int key) {
        return key < 0 || key >= KEYS ? 0 : 1 << key;
    }

    private static boolean has(int set, int key) {
        return key >= 0 && key < KEYS && (set >> key & 1) != 0;
    }

    private static int at(int[] numbers, int place) {
        return place >= 0 && place < numbers.length ? numbers[place] : 0;
    }

    private static long at(long[] numbers, int place) {
        return place >= 0 && place < numbers.length ? numbers[place] : 0;
    }

    private static void put(int[] numbers, int place, int number) {
        if (place >= 0 && place < numbers.length) {
            numbers[place] = number;
        }
    }

    private static void put(long[] numbers, int place, long number) {
        if (place >= 0 && place < numbers.length) {
            numbers[place] = number;
        }
    }

    private static void add(int[] numbers, int place, int more) {
        if (place >= 0 && place < numbers.length) {
            numbers[place] += more;
        }
    }

    private static void copy(int[] from, int[] to) {
        System.arraycopy(from, 0, to, 0, from.length <= to.length ? from.length : to.length);
    }

    private static void copy(long[] from, long[] to) {
        System.arraycopy(from, 0, to, 0, from.length <= to.length ? from.length : to.length);
    }

    /** The key of the set with the least rank, of like ones the lesser key; NONE of an empty set. */
    private static int least(int set, long[] ranks) {
        int found = NONE;
        long foundRank = 0;
        for (int key = 0; key < ranks.length; key++) {
            if ((set >> key & 1) != 0 && (found == NONE || ranks[key] < foundRank)) {
                found = key;
                foundRank = ranks[key];
            }
        }
        return found;
    }

    /** The rank by fewest requests, of like ones by the latest of them, behind one more request. */
    private static long rankAskedAgain(long rank, int request) {
        return (rank / LONGEST_ROW + 1) * LONGEST_ROW + request;
    }

    private static final class Keys {
        final int[] size = new int[KEYS];
        final int[] cost = new int[KEYS];
        final int[] owner = new int[KEYS];

        Keys() {
            Arrays.fill(size, 1);
            Arrays.fill(cost, 1);
        }

        int tell(int key, int newSize, int newCost, int newOwner) {
            int before = at(size, key);
            put(size, key, newSize);
            put(cost, key, newCost);
            put(owner, key, newOwner);
            return before;
        }

        int units(int set) {
            int sum = 0;
            for (int key = 0; key < size.length; key++) {
                if ((set >> key & 1) != 0) {
                    sum += size[key];
                }
            }
            return sum;
        }

        int ofOwner(int asked) {
            int set = 0;
            for (int key = 0; key < owner.length; key++) {
                if (owner[key] == asked) {
                    set |= 1 << key;
                }
            }
            return set;
        }

        /** What a use adds to the level of a cache. */
        int worthOf(int key) {
            int units = at(size, key);
            return units > 0 ? WORTH_OF_COST * at(cost, key) / units : 0;
        }

        void copyKeys(Keys other) {
            copy(other.size, size);
            copy(other.cost, cost);
            copy(other.owner, owner);
        }
    }

    private static final class Row {
        final int[] key = new int[LONGEST_ROW];
        final int[] write = new int[LONGEST_ROW];
        final int[] minute = new int[LONGEST_ROW];
        int length;

        void append(int newKey, boolean isWrite, int present) {
            put(key, length, newKey);
            put(write, length, isWrite ? 1 : 0);
            put(minute, length, present);
            length = Math.min(length + 1, LONGEST_ROW);
        }

        int timesAsked(int asked) {
            int many = 0;
            for (int request = 0; request < length && request < key.length; request++) {
                if (key[request] == asked) {
                    many++;
                }
            }
            return many;
        }

        int distanceOf(int request) {
            int asked = at(key, request);
            int others = 0;
            for (int ahead = request - 1; ahead >= 0; ahead--) {
                int other = at(key, ahead);
                if (other == asked) {
                    return 1 + Integer.bitCount(others);
                }
                others |= bit(other);
            }
            return NONE;
        }

        /** How many phases the first requests of the row begin. */
        int phasesUpTo(int size, int requests) {
            int many = 0;
            int inPhase = 0;
            for (int request = 0; request < requests && request < key.length; request++) {
                int with = inPhase | bit(key[request]);
                boolean begins = many == 0 || Integer.bitCount(with) > size;
                inPhase = begins ? bit(key[request]) : with;
                many += begins ? 1 : 0;
            }
            return many;
        }

        void copyRow(Row other) {
            copy(other.key, key);
            copy(other.write, write);
            copy(other.minute, minute);
            length = other.length;
        }
    }

    /** With what a cache was fed since it was emptied, and what came of it. */
    private static final class Tally {
        final int[] counts = new int[COUNTS];
        final int[] hitsOf = new int[KEYS];
        final int[] missesOf = new int[KEYS];
        final int[] outcomes = new int[LONGEST_ROW];
        final long[] lastAsked = new long[KEYS];
        final long[] fewness = new long[KEYS];
        /** The outcomes are those of the requests from here to fedEnd; others are left from before. */
        int fedFrom;
        int fedEnd;

        void start(int nextRequest) {
            Arrays.fill(counts, 0);
            Arrays.fill(hitsOf, 0);
            Arrays.fill(missesOf, 0);
            Arrays.fill(lastAsked, NONE);
            Arrays.fill(fewness, 0);
            fedFrom = nextRequest;
            fedEnd = nextRequest;
        }

        void noteAsked(int request, int key) {
            put(lastAsked, key, request);
            put(fewness, key, rankAskedAgain(at(fewness, key), request));
        }

        void noteOutcome(int request, int key, int result) {
            put(outcomes, request, result);
            fedEnd = request + 1;
            add(counts, result == HIT ? HITS : MISSES, 1);
            add(result == HIT ? hitsOf : missesOf, key, 1);
            if (result == PASSED_BY) {
                add(counts, PASSES, 1);
            }
        }

        int outcomeAt(int request) {
            return request >= fedFrom && request < fedEnd ? at(outcomes, request) : NONE;
        }

        void copyTally(Tally other) {
            copy(other.counts, counts);
            copy(other.hitsOf, hitsOf);
            copy(other.missesOf, missesOf);
            copy(other.outcomes, outcomes);
            copy(other.lastAsked, lastAsked);
            copy(other.fewness, fewness);
            fedFrom = other.fedFrom;
            fedEnd = other.fedEnd;
        }
    }

    /** A cache beside one that adapts. It needs no order of its own: what it holds was last used when last asked. */
    private static final class Shadow {
        int held;
        int misses;

        void start() {
            held = 0;
            misses = 0;
        }

        void feed(int key, Keys keys, int room, long[] ranks) {
            if (has(held, key)) {
                return;
            }
            misses++;
            int wanted = at(keys.size, key);
            if (wanted > room) {
                return;
            }
            for (int turn = 0; turn < KEYS && keys.units(held) + wanted > room; turn++) {
                held &= ~bit(least(held, ranks));
            }
            held |= bit(key);
        }

        void copyShadow(Shadow other) {
            held = other.held;
            misses = other.misses;
        }
    }

    private static final class Cache {
        int rule;
        int room;
        int lapse;
        int mode;
        final int[] shares = new int[OWNERS];
        int held;
        int dirty;
        int marked;
        int old;
        int fetched;
        int remembered;
        long level;
        /** Orders what happens within the cache; no time. */
        private int clock;
        private final int[] minute = new int[KEYS];
        private final long[] used = new long[KEYS];
        /**
         * Since when a key stands where it stands: in the cache, by SECOND_CHANCE at its place in the queue, or, if it
         * was put out, among those that are remembered.
         */
        private final long[] since = new long[KEYS];
        final long[] worth = new long[KEYS];
        final Tally tally = new Tally();
        final Shadow byUse = new Shadow();
        final Shadow byCount = new Shadow();

        void setUp(int newRule, int newRoom, int newLapse, int newMode) {
            rule = newRule;
            room = newRoom;
            lapse = newLapse;
            mode = newMode;
            Arrays.fill(shares, 0);
        }

        void share(int first, int second, int third, int fourth) {
            put(shares, 0, first);
            put(shares, 1, second);
            put(shares, 2, third);
            put(shares, 3, fourth);
        }

        void empty(int nextRequest) {
            held = 0;
            dirty = 0;
            marked = 0;
            old = 0;
            fetched = 0;
            remembered = 0;
            level = 0;
            clock = 0;
            tally.start(nextRequest);
            byUse.start();
            byCount.start();
        }

        /** Does a request of the row; answers whether it was a hit. */
        boolean feed(Keys keys, Row row, int request) {
            int key = at(row.key, request);
            int present = at(row.minute, request);
            int latest = (int) at(tally.lastAsked, key);
            tally.noteAsked(request, key);
            boolean isHit = has(held, key);
            boolean passes = !isHit && at(keys.size, key) > room;
            tally.noteOutcome(request, key, isHit ? HIT : passes ? PASSED_BY : CAME_IN);
            if (isHit) {
                meet(keys, key);
            } else {
                add(tally.counts, COSTS, at(keys.cost, key));
            }
            if (!isHit && !passes) {
                makeRoom(keys, key, NONE);
                comeIn(keys, key, present);
            }
            if (at(row.write, request) != 0) {
                writeTo(key, present);
            }
            int ahead = (mode & FETCHES) != 0 && latest != NONE ? at(row.key, latest + 1) : key;
            if (canFetch(keys, ahead, key)) {
                makeRoom(keys, ahead, key);
                comeIn(keys, ahead, present);
                fetched |= bit(ahead);
                add(tally.counts, FETCHED, 1);
            }
            if (rule == ADAPTING) {
                byUse.feed(key, keys, room, tally.lastAsked);
                byCount.feed(key, keys, room, tally.fewness);
            }
            return isHit;
        }

        private void meet(Keys keys, int key) {
            if (has(fetched, key)) {
                fetched &= ~bit(key);
                add(tally.counts, USEFUL, 1);
            }
            marked |= bit(key);
            use(keys, key);
        }

        private void use(Keys keys, int key) {
            clock++;
            put(used, key, clock);
            put(worth, key, level + keys.worthOf(key));
        }

        private void comeIn(Keys keys, int key, int present) {
            held |= bit(key);
            if (has(remembered, key)) {
                remembered &= ~bit(key);
                old |= bit(key);
            }
            put(minute, key, present);
            use(keys, key);
            put(since, key, clock);
        }

        private void writeTo(int key, int present) {
            boolean isHeld = has(held, key);
            if (isHeld) {
                put(minute, key, present);
            }
            if (isHeld && (mode & KEEPS_WRITES) != 0) {
                dirty |= bit(key);
            } else {
                add(tally.counts, WRITINGS, 1);
            }
        }

        private boolean canFetch(Keys keys, int ahead, int asked) {
            int wanted = at(keys.size, ahead) + (has(held, asked) ? at(keys.size, asked) : 0);
            return ahead != asked && !has(held, ahead) && wanted <= room;
        }

        private void makeRoom(Keys keys, int incoming, int staying) {
            int wanted = at(keys.size, incoming);
            for (int turn = 0; turn < KEYS && keys.units(held) + wanted > room; turn++) {
                putOut(keys, canGo(keys, held & ~bit(staying), incoming));
            }
        }

        /** Which of these keys can go for one that comes in. */
        private int canGo(Keys keys, int these, int incoming) {
            int beyond = ownersBeyond(keys, held | bit(incoming));
            int theirs = 0;
            for (int key = 0; key < KEYS && beyond != 0; key++) {
                if ((beyond >> at(keys.owner, key) & 1) != 0) {
                    theirs |= these & bit(key);
                }
            }
            return theirs != 0 ? theirs : these;
        }

        private boolean hasShares() {
            return (at(shares, 0) | at(shares, 1) | at(shares, 2) | at(shares, 3)) != 0;
        }

        /** The owners, a bit for each, who have more of these keys than their share; none without shares. */
        int ownersBeyond(Keys keys, int these) {
            if (!hasShares()) {
                return 0;
            }
            int beyond = 0;
            for (int owner = 0; owner < shares.length; owner++) {
                if (keys.units(these & keys.ofOwner(owner)) > shares[owner]) {
                    beyond |= 1 << owner;
                }
            }
            return beyond;
        }

        private void putOut(Keys keys, int these) {
            if (rule == SECOND_CHANCE) {
                turnQueue(these);
            }
            int key = choose(keys, these);
            if (key == NONE) {
                return;
            }
            if (rule == LEAST_COST) {
                level = Math.max(level, at(worth, key));
            }
            if (rule == TWO_QUEUES && !has(old, key)) {
                remember(key);
            }
            takeOut(key);
            add(tally.counts, PUT_OUT, 1);
        }

        /** Looks through the queue until the key that goes stands first in it; twice round is always enough. */
        private void turnQueue(int these) {
            for (int turn = 0; turn < 2 * KEYS; turn++) {
                int first = least(held, since);
                boolean goes = (these & ~marked & bit(first)) != 0;
                if (goes || first == NONE) {
                    return;
                }
                marked &= ~(these & bit(first));
                clock++;
                put(since, first, clock);
            }
        }

        /** The one of these keys that the rule puts out. */
        private int choose(Keys keys, int these) {
            switch (rule) {
                case FEWEST:
                    return least(these, tally.fewness);
                case FIRST_IN:
                    return least(these, since);
                case SECOND_CHANCE:
                    int unmarked = these & ~marked;
                    return least(unmarked != 0 ? unmarked : these, since);
                case TWO_QUEUES:
                    int aged = these & old;
                    int young = these & ~old;
                    boolean areAbove = keys.units(held & ~old) > Math.max(1, room / 4);
                    return young != 0 && (areAbove || aged == 0) ? least(young, since) : least(aged, used);
                case LEAST_COST:
                    return least(these, worth);
                case ADAPTING:
                    return least(these, leansToLastUse() ? used : tally.fewness);
                default:
                    return least(these, used);
            }
        }

        private void remember(int key) {
            remembered |= bit(key);
            clock++;
            put(since, key, clock);
            if (Integer.bitCount(remembered) > room) {
                remembered &= ~bit(least(remembered, since));
            }
        }

        void takeOut(int key) {
            if (has(dirty, key)) {
                add(tally.counts, WRITINGS, 1);
            }
            int others = ~bit(key);
            held &= others;
            dirty &= others;
            marked &= others;
            old &= others;
            fetched &= others;
        }

        int lapseAt(int present) {
            int many = 0;
            for (int key = 0; key < KEYS && lapse > 0; key++) {
                if (has(held, key) && present - at(minute, key) >= lapse) {
                    takeOut(key);
                    many++;
                }
            }
            add(tally.counts, LAPSED, many);
            return many;
        }

        int writeDirty() {
            int many = Integer.bitCount(dirty);
            dirty = 0;
            add(tally.counts, WRITINGS, many);
            return many;
        }

        boolean leansToLastUse() {
            return byUse.misses <= byCount.misses;
        }

        int firstOutFor(Keys keys, int key) {
            int wanted = at(keys.size, key);
            boolean hasRoom = keys.units(held) + wanted <= room;
            if (has(held, key) || wanted > room || hasRoom) {
                return NONE;
            }
            return choose(keys, canGo(keys, held, key));
        }

        /** The first of these held keys by the order of the cache. */
        int firstOf(int these) {
            switch (rule) {
                case FEWEST:
                    return least(these, tally.fewness);
                case FIRST_IN:
                case SECOND_CHANCE:
                    return least(these, since);
                case TWO_QUEUES:
                    int young = these & ~old;
                    return young != 0 ? least(young, since) : least(these, used);
                case LEAST_COST:
                    return least(these, worth);
                default:
                    return least(these, used);
            }
        }

        void copyCache(Cache other) {
            rule = other.rule;
            room = other.room;
            lapse = other.lapse;
            mode = other.mode;
            copy(other.shares, shares);
            held = other.held;
            dirty = other.dirty;
            marked = other.marked;
            old = other.old;
            fetched = other.fetched;
            remembered = other.remembered;
            level = other.level;
            clock = other.clock;
            copy(other.minute, minute);
            copy(other.used, used);
            copy(other.since, since);
            copy(other.worth, worth);
            tally.copyTally(other.tally);
            byUse.copyShadow(other.byUse);
            byCount.copyShadow(other.byCount);
        }
    }

    /** All that undo() brings back. */
    private static final class Bench {
        final Keys keys = new Keys();
        final Row row = new Row();
        private final Cache first = new Cache();
        private final Cache[] caches = new Cache[CACHES];
        int time;

        Bench() {
            for (int number = 0; number < caches.length; number++) {
                Cache made = number == 0 ? first : new Cache();
                made.setUp(number < CACHES - 1 ? number : ADAPTING, 4, 0, 0);
                made.empty(0);
                caches[number] = made;
            }
        }

        /** The callers have looked at the number; the first stands in for what can't be. */
        Cache cache(int number) {
            Cache found = number >= 0 && number < caches.length ? caches[number] : null;
            return found != null ? found : first;
        }

        boolean isAnywhere(int key) {
            int everywhere = 0;
            for (int number = 0; number < CACHES; number++) {
                Cache asked = cache(number);
                everywhere |= asked.held | asked.byUse.held | asked.byCount.held;
            }
            return has(everywhere, key);
        }

        int lapseAt(int present) {
            int many = 0;
            for (int number = 0; number < CACHES; number++) {
                many += cache(number).lapseAt(present);
            }
            return many;
        }

        /** Makes a request; answers the caches for which it was a hit, as bits. */
        int ask(int key, boolean isWrite) {
            row.append(key, isWrite, time);
            int bits = 0;
            for (int number = 0; number < CACHES; number++) {
                bits |= cache(number).feed(keys, row, row.length - 1) ? 1 << number : 0;
            }
            return bits;
        }

        void emptyCaches() {
            for (int number = 0; number < CACHES; number++) {
                cache(number).empty(0);
            }
        }

        int feedAnew() {
            emptyCaches();
            int many = 0;
            for (int number = 0; number < CACHES; number++) {
                Cache fed = cache(number);
                for (int request = 0; request < row.length && request < LONGEST_ROW; request++) {
                    fed.lapseAt(at(row.minute, request));
                    many += fed.feed(keys, row, request) ? 1 : 0;
                }
                fed.lapseAt(time);
            }
            return many;
        }

        void copyBench(Bench other) {
            keys.copyKeys(other.keys);
            row.copyRow(other.row);
            for (int number = 0; number < CACHES; number++) {
                cache(number).copyCache(other.cache(number));
            }
            time = other.time;
        }
    }

    private static final class Cursor {
        boolean isOpen;
        /** Whether it told a key last that was not taken out since. */
        boolean canDrop;
        int cache;
        int length;
        int told;
        private final int[] keys = new int[KEYS];

        void openOn(int number, Cache gone) {
            isOpen = true;
            canDrop = false;
            cache = number;
            told = 0;
            length = Integer.bitCount(gone.held);
            int left = gone.held;
            for (int place = 0; place < length; place++) {
                int key = gone.firstOf(left);
                put(keys, place, key);
                left &= ~bit(key);
            }
        }

        int lastTold() {
            return at(keys, told - 1);
        }

        void close() {
            isOpen = false;
            canDrop = false;
        }
    }

    /** The text, and the requests that it tells as far as a row can take them. */
    private static final class Text {
        private static final int DEEPEST = 3, MOST_TIMES = 50;

        final int[] bytes = new int[LONGEST_TEXT];
        int length;
        /** How many requests are told, also those that no row could take. */
        int told;
        final int[] toldKeys = new int[LONGEST_ROW];
        final int[] toldWrites = new int[LONGEST_ROW];
        private final int[] times = new int[DEEPEST];
        private final int[] begins = new int[DEEPEST];

        /** Reads the text; answers the place of its error or NONE. */
        int findError() {
            told = 0;
            int depth = 0;
            int number = NONE;
            boolean isBehindLetter = false;
            for (int place = 0; place < length; place++) {
                int c = at(bytes, place);
                if (c == ' ') {
                    continue;
                }
                if (number != NONE) {
                    if (c != '(' || depth >= DEEPEST) {
                        return place;
                    }
                    put(times, depth, number);
                    put(begins, depth, told);
                    depth++;
                    number = NONE;
                } else if (isDigit(c)) {
                    number = numberAt(place);
                    if (number == NONE) {
                        return place;
                    }
                    place += isDigit(byteAt(place + 1)) ? 1 : 0;
                } else if (c == ')' && depth > 0) {
                    depth--;
                    repeat(at(begins, depth), at(times, depth));
                } else if (c == '!' && isBehindLetter) {
                    put(toldWrites, told - 1, 1);
                } else if (c >= 'a' && c <= 'z') {
                    tell(c - 'a');
                } else {
                    return place;
                }
                isBehindLetter = c >= 'a' && c <= 'z';
            }
            return number != NONE || depth > 0 ? length : NONE;
        }

        private int byteAt(int place) {
            return place < length ? at(bytes, place) : NONE;
        }

        private static boolean isDigit(int c) {
            return c >= '0' && c <= '9';
        }

        /** The number that begins here; NONE if it is not right. */
        private int numberAt(int place) {
            int value = byteAt(place) - '0';
            int second = byteAt(place + 1);
            if (isDigit(second)) {
                value = 10 * value + second - '0';
                if (isDigit(byteAt(place + 2))) {
                    return NONE;
                }
            }
            return value >= 1 && value <= MOST_TIMES ? value : NONE;
        }

        private void tell(int key) {
            put(toldKeys, told, key);
            put(toldWrites, told, 0);
            told++;
        }

        /** Tells what was told from a place on again, until it is told so many times. */
        private void repeat(int begin, int many) {
            int span = told - begin;
            int end = begin + span * many;
            for (int place = told; place < end && place < LONGEST_ROW; place++) {
                put(toldKeys, place, at(toldKeys, place - span));
                put(toldWrites, place, at(toldWrites, place - span));
            }
            told = end;
        }
    }

    /** A cache of like keys, fed with the row anew for each question. */
    private static final class Study {
        int held;
        int lastOut;
        private int hitsSoFar;
        /** The held key with the least rank is put out. */
        private final long[] ranks = new long[KEYS];
        private final int[] nextForKey = new int[KEYS];
        private final int[] askedAgainAt = new int[LONGEST_ROW];
        private final int[] byDistance = new int[KEYS + 1];

        /** Feeds it with the first requests of the row; NONE is the best rule. */
        void feed(Row row, int rule, int size, int requests) {
            held = 0;
            lastOut = NONE;
            hitsSoFar = 0;
            Arrays.fill(ranks, 0);
            if (rule == NONE) {
                lookAhead(row);
            }
            for (int request = 0; request < requests && request < LONGEST_ROW; request++) {
                int key = at(row.key, request);
                boolean isHit = has(held, key);
                hitsSoFar += isHit ? 1 : 0;
                lastOut = !isHit && Integer.bitCount(held) >= size ? least(held, ranks) : NONE;
                held = held & ~bit(lastOut) | bit(key);
                if (!isHit || rule != FIRST_IN) {
                    put(ranks, key, rankBehind(rule, key, request));
                }
            }
        }

        private long rankBehind(int rule, int key, int request) {
            switch (rule) {
                case FEWEST: return rankAskedAgain(at(ranks, key), request);
                case NONE: return -at(askedAgainAt, request);
                default: return request;
            }
        }

        /** Tells when the key of each request is asked again: if not, behind the row, the later the greater the key. */
        private void lookAhead(Row row) {
            for (int key = 0; key < nextForKey.length; key++) {
                nextForKey[key] = LONGEST_ROW + key;
            }
            for (int request = row.length - 1; request >= 0; request--) {
                int key = at(row.key, request);
                put(askedAgainAt, request, at(nextForKey, key));
                put(nextForKey, key, request);
            }
        }

        int hitsBy(Row row, int rule, int size) {
            feed(row, rule, size, row.length);
            return hitsSoFar;
        }

        int brokenSizes(Row row) {
            countDistances(row);
            int broken = 0;
            int near = 0;
            int useBefore = 0;
            int fewestBefore = 0;
            for (int size = 1; size <= 12; size++) {
                near += at(byDistance, size);
                int use = hitsBy(row, LAST_USE, size);
                int fewest = hitsBy(row, FEWEST, size);
                int firstIn = hitsBy(row, FIRST_IN, size);
                int best = hitsBy(row, NONE, size);
                boolean grows = use >= useBefore && fewest >= fewestBefore;
                boolean isBest = best >= use && best >= fewest && best >= firstIn;
                boolean missesPhases = row.length - best >= row.phasesUpTo(size, row.length);
                broken += use == near && grows && isBest && missesPhases ? 0 : 1;
                useBefore = use;
                fewestBefore = fewest;
            }
            return broken;
        }

        private void countDistances(Row row) {
            Arrays.fill(byDistance, 0);
            for (int request = 0; request < row.length && request < LONGEST_ROW; request++) {
                int far = row.distanceOf(request);
                if (far != NONE) {
                    add(byDistance, far, 1);
                }
            }
        }
    }

    /**
     * Looks for the row by which a greater cache does worse. Rows grow by a request at a time, in the order in which
     * they would be listed. Of rows that leave both caches alike only the one goes on by which the lesser cache leads
     * most, the first of like ones: what follows is the same for all of them, so that no other can be the answer.
     */
    private static final class ShameSearch {
        static final int LONGEST = 12;
        /** No search needs more than 1089 nodes. */
        private static final int NODES = 1200;
        private static final int SLOTS = 2048;
        private static final int MARK = 8;

        final int[] found = new int[LONGEST];
        int foundLength = NONE;
        private boolean hasMarks;
        private int room;
        private int greater;
        private int keys;
        private int nodes;
        /** What both caches hold behind the row of a node, and how many keys it asked. */
        private final long[] state = new long[NODES];
        private final int[] lead = new int[NODES];
        private final int[] parent = new int[NODES];
        private final int[] lastKey = new int[NODES];
        /** 1 plus the node that goes on for a state, by a hash of it; 0 for none. */
        private final int[] slots = new int[SLOTS];

        int look(boolean newMarks, int newRoom, int newGreater, int newKeys, int most) {
            hasMarks = newMarks;
            room = newRoom;
            greater = newGreater;
            keys = newKeys;
            nodes = 0;
            foundLength = NONE;
            Arrays.fill(slots, 0);
            offer(0, 0, NONE, NONE);
            int layer = 0;
            for (int length = 1; length <= most && length <= LONGEST; length++) {
                int layerEnd = nodes;
                for (int node = layer; node < layerEnd; node++) {
                    if (goOn(node, length)) {
                        return length;
                    }
                }
                layer = layerEnd;
            }
            return NONE;
        }

        /** Lets the row of a node go on with each key; answers whether one of these shames, and keeps it. */
        private boolean goOn(int node, int length) {
            long here = at(state, node);
            int lesserQueue = (int) (here & 0xffff);
            int greaterQueue = (int) (here >>> 16 & 0xffffff);
            int asked = (int) (here >>> 40);
            for (int key = 0; key < keys && key <= asked; key++) {
                int gain = (placeIn(lesserQueue, key) != NONE ? 1 : 0) - (placeIn(greaterQueue, key) != NONE ? 1 : 0);
                int newLead = at(lead, node) + gain;
                if (newLead > 0) {
                    keep(node, key, length);
                    return true;
                }
                long there = behind(lesserQueue, room, key) | (long) behind(greaterQueue, greater, key) << 16
                        | (long) Math.max(asked, key + 1) << 40;
                offer(there, newLead, node, key);
            }
            return false;
        }

        private void keep(int node, int key, int length) {
            foundLength = length;
            put(found, length - 1, key);
            int from = node;
            for (int place = length - 2; place >= 0; place--) {
                put(found, place, at(lastKey, from));
                from = at(parent, from);
            }
        }

        /** Makes a node, unless a row ahead of it left the same state with no lesser lead. */
        private void offer(long newState, int newLead, int from, int key) {
            int slot = (int) (newState * 0x9E3779B97F4A7C15L >>> 53);
            for (int turn = 0; turn < SLOTS; turn++) {
                int other = at(slots, slot) - 1;
                if (other < 0 || at(state, other) == newState) {
                    break;
                }
                slot = slot + 1 < SLOTS ? slot + 1 : 0;
            }
            int known = at(slots, slot) - 1;
            if (known >= 0 && at(lead, known) >= newLead || nodes >= NODES) {
                return;
            }
            put(slots, slot, nodes + 1);
            put(state, nodes, newState);
            put(lead, nodes, newLead);
            put(parent, nodes, from);
            put(lastKey, nodes, key);
            nodes++;
        }

        /** A queue has four bits for each key, the first one lowest: 1 plus the key, and MARK. */
        private static int placeIn(int queue, int key) {
            int left = queue;
            for (int place = 0; place < 6; place++) {
                if ((left & MARK - 1) == key + 1) {
                    return place;
                }
                left >>>= 4;
            }
            return NONE;
        }

        /** The queue behind a request. */
        private int behind(int queue, int most, int key) {
            int place = placeIn(queue, key);
            if (place != NONE) {
                return hasMarks ? queue | MARK << 4 * place : queue;
            }
            int length = placeIn(queue, NONE);
            if (length == NONE || length >= most) {
                length = most;
                return turned(queue, length) >>> 4 | key + 1 << 4 * (length - 1);
            }
            return queue | key + 1 << 4 * length;
        }

        /** The queue as it is looked through, until a key without a mark stands first. */
        private static int turned(int queue, int length) {
            int left = queue;
            for (int turn = 0; turn < length && (left & MARK) != 0; turn++) {
                left = left >>> 4 | (left & MARK - 1) << 4 * (length - 1);
            }
            return left;
        }
    }
}
