/** Sections 1 to 3 of the document: each sentence that names a boundary case, by a test of its own. */
public final class CacheEdgesTest extends Checks {

    /** A bench whose cache 0 is as told and whose others are left. */
    private static Cachebench by(int rule, int room, int lapse, int mode) {
        return with(0, rule, room, lapse, mode);
    }

    private static Cachebench keysOf(Cachebench x, int owner, int... keys) {
        for (int key : keys) {
            x.setKey(key, 1, 1, owner);
        }
        return x;
    }

    private static String counts(Cachebench x, int cache) {
        StringBuilder all = new StringBuilder();
        for (int what = 0; what < 9; what++) {
            all.append(what == 0 ? "" : " ").append(x.count(cache, what));
        }
        return all.toString();
    }

    // ---- 1. Keys, the row, time

    /** A key has a size, 1 to 8 units (1 at first), a cost, 0 to 1000 (1 at first), and an owner, 0 to 3 (0 at first). */
    static void keysAtFirst() {
        Cachebench x = new Cachebench();
        for (int key = 0; key < 26; key++) {
            due("the key " + key + " at first", "" + x.keyAt(key, 0) + x.keyAt(key, 1) + x.keyAt(key, 2) + x.keyAt(key, 3), "1100");
        }
    }

    static void keysAtBothEnds() {
        Cachebench x = new Cachebench();
        due("the size that it had", x.setKey(0, 8, 1000, 3), 1);
        due("the greatest", x.keyAt(0, 0) + " " + x.keyAt(0, 1) + " " + x.keyAt(0, 2), "8 1000 3");
        due("the size that it had", x.setKey(0, 1, 0, 0), 8);
        due("the least", x.keyAt(0, 0) + " " + x.keyAt(0, 1) + " " + x.keyAt(0, 2), "1 0 0");
        due("the last key", x.setKey(25, 2, 1, 1), 1);
        due("no other key", x.keyAt(24, 0) + x.keyAt(1, 0), 2);
    }

    /** The time is a number of minutes, 0 at first; it goes on by pass() alone. */
    static void theTime() {
        Cachebench x = new Cachebench();
        due("the time at first", x.now(), 0);
        x.pass(1);
        x.pass(1000);
        x.setKey(9, 2, 2, 2);
        x.request(0, true);
        x.draw(3, 50, 26, 50);
        ask(x, "abc");
        x.replay();
        x.setShares(1, 1, 1, 1, 1);
        x.flush(0);
        x.open(0);
        int first = x.next();
        x.dropTold();
        x.drop(1, x.keyInOrder(1, 0));
        due("the cursor told", x.holds(0, first), false);
        x.setCache(2, 2, 2, 2, 2);
        x.clearRow();
        due("the time goes on by pass alone", x.now(), 1001);
        x.undo();
        due("nor by undo, if it was the same", x.now(), 1001);
    }

    static void aLongTime() {
        Cachebench x = new Cachebench();
        for (int i = 0; i < 500; i++) {
            x.pass(1000);
        }
        x.request(0, false);
        due("a long time", x.now(), 500000);
        due("its minute", x.requestAt(0, 2), 500000);
    }

    /** A request asks for a key, to read it or to write it, at the time. */
    static void aRequestIsMadeAtTheTime() {
        Cachebench x = new Cachebench();
        x.request(0, false);
        x.pass(3);
        x.draw(1, 2, 1, 100);
        x.pass(4);
        ask(x, "b!");
        due("minutes", "" + x.requestAt(0, 2) + x.requestAt(1, 2) + x.requestAt(2, 2) + x.requestAt(3, 2), "0337");
        due("row", rowOf(x), "aa!a!b!");
    }

    /** The requests, in their order, are the row; they are numbered from 0. It is empty at first. */
    static void theRowAtFirst() {
        Cachebench x = new Cachebench();
        due("the row at first", x.rowLength(), 0);
        refused("its request 0", INDEX, () -> x.requestAt(0, 0));
        x.request(25, true);
        due("the first one is 0", x.requestAt(0, 0), 25);
        refused("no request 1", INDEX, () -> x.requestAt(1, 0));
    }

    /** The row has at most 300 requests. */
    static void aFullRowByRequest() {
        Cachebench x = longRow(299);
        due("the request 300", x.request(0, false), 63);
        due("row", x.rowLength(), 300);
        due("its last request", x.requestAt(299, 0), 0);
        refused("the request 301", STATE, () -> x.request(0, false));
        refused("no such number", INDEX, () -> x.requestAt(300, 0));
        due("row", x.rowLength(), 300);
    }

    static void aFullRowByDraw() {
        Cachebench x = longRow(250);
        due("50 to 300", x.draw(7, 50, 1, 0), 300);
        refused("one more", STATE, () -> x.draw(7, 1, 1, 0));
        Cachebench y = longRow(251);
        refused("50 to 301", STATE, () -> y.draw(7, 50, 1, 0));
        due("49 to 300", y.draw(7, 49, 1, 0), 294);
        Cachebench z = longRow(299);
        refused("2 to 301", STATE, () -> z.draw(7, 2, 1, 0));
        due("1 to 300", z.draw(7, 1, 1, 0), 6);
    }

    static void aFullRowByRun() {
        Cachebench x = new Cachebench();
        due("300 at once", ask(x, "50(6(a))"), 300);
        due("none more", ask(x, ""), 0);
        due("none more", ask(x, "50(50(50()))"), 0);
        typeAll(x, "a");
        refused("one more", STATE, () -> x.run());
        Cachebench y = typeAll(new Cachebench(), "50(6(a))a");
        refused("301 at once", STATE, () -> y.run());
        due("nothing of it is made", y.rowLength(), 0);
        Cachebench z = typeAll(longRow(298), "abc");
        refused("298 and 3", STATE, () -> z.run());
        due("298 and 2", ask(z, "ab"), 2);
    }

    static void aFullRowThatIsMadeEmpty() {
        Cachebench x = longRow(300);
        due("cleared", x.clearRow(), 300);
        due("there is room again", x.request(0, false), 0);
        Cachebench y = longRow(300);
        y.undo();
        due("undone", y.rowLength(), 250);
        due("there is room again", y.draw(1, 50, 26, 0) >= 0, true);
    }

    /** Each request is done by all caches. */
    static void allCachesDoARequest() {
        Cachebench x = new Cachebench();
        ask(x, "aba");
        for (int cache = 0; cache < 6; cache++) {
            due("outcomes of " + cache, "" + x.outcome(cache, 0) + x.outcome(cache, 1) + x.outcome(cache, 2), "110");
        }
    }

    // ---- 2. Caches

    /** At first the caches have the rules 0, 1, 2, 3, 4 and 6, a room of 4, no lapse, the mode 0, no shares, are empty. */
    static void cachesAtFirst() {
        Cachebench x = new Cachebench();
        for (int cache = 0; cache < 6; cache++) {
            StringBuilder all = new StringBuilder();
            for (int what = 0; what < 8; what++) all.append(x.cacheAt(cache, what));
            for (int owner = 0; owner < 4; owner++) all.append(x.ownerAt(cache, owner, true)).append(x.ownerAt(cache, owner, false));
            due("the cache " + cache, all.toString(), (cache == 5 ? 6 : cache) + "4000000" + "00000000");
            due("its counts", counts(x, cache), "0 0 0 0 0 0 0 0 0");
            due("what it holds", keysWhere(x, key -> holds(x, key)), "");
        }
    }

    private static boolean holds(Cachebench x, int key) {
        boolean isHeld = false;
        for (int cache = 0; cache < 6; cache++) isHeld |= x.holds(cache, key) || x.isDirty(cache, key) || x.countOf(cache, key, false) > 0;
        return isHeld;
    }

    /** It holds keys whose sizes together are at most the room: the least room, the greatest, and filled to the unit. */
    static void theLeastRoom() {
        for (int rule = 0; rule <= 6; rule++) {
            Cachebench x = by(rule, 1, 0, 0);
            ask(x, "a");
            due("one key, rule " + rule, order(x, 0) + x.count(0, 2), "a0");
            ask(x, "b");
            due("in place of it, rule " + rule, order(x, 0) + x.count(0, 2), "b1");
        }
    }

    static void theGreatestRoom() {
        for (int rule = 0; rule <= 6; rule++) {
            Cachebench x = by(rule, 20, 0, 0);
            ask(x, "abcdefghijklmnopqrst");
            due("20 units, rule " + rule, x.cacheAt(0, 4) + " " + x.cacheAt(0, 5) + " " + x.count(0, 2), "20 20 0");
            ask(x, "u");
            due("no 21, rule " + rule, x.cacheAt(0, 4) + " " + x.cacheAt(0, 5) + " " + x.count(0, 2), "20 20 1");
        }
    }

    static void filledToTheUnit() {
        for (int rule = 0; rule <= 6; rule++) {
            Cachebench x = by(rule, 20, 0, 0);
            x.setKey(0, 8, 1, 0);
            x.setKey(1, 8, 1, 0);
            x.setKey(2, 4, 1, 0);
            x.setKey(3, 5, 1, 0);
            ask(x, "abc");
            due("8, 8 and 4, rule " + rule, x.cacheAt(0, 5) + " " + x.count(0, 2), "20 0");
            x.undo();
            ask(x, "abd");
            due("8, 8 and 5, rule " + rule, x.cacheAt(0, 5) + " " + x.count(0, 2), "13 1");
        }
    }

    /** To read it leaves the minute as it is. */
    static void toReadLeavesTheMinute() {
        Cachebench x = by(0, 4, 10, 0);
        ask(x, "a");
        x.pass(5);
        ask(x, "a");
        due("at 9", x.pass(4), 0);
        due("at 10", x.pass(1), 1);
    }

    /** The minute at which it came in or was last written, whether writes are kept back or not. */
    static void toWriteSetsTheMinute() {
        for (int mode = 0; mode <= 3; mode++) {
            Cachebench x = by(0, 4, 10, mode);
            ask(x, "a");
            x.pass(2);
            ask(x, "a!");
            x.pass(3);
            ask(x, "a!");
            due("at 14, mode " + mode, x.pass(9), 0);
            due("at 15, mode " + mode, x.pass(1), 1);
        }
    }

    static void toComeInSetsTheMinute() {
        Cachebench x = by(0, 1, 10, 0);
        ask(x, "a!");
        x.pass(6);
        ask(x, "ba");
        due("at 15", x.pass(9), 0);
        due("at 16", x.pass(1), 1);
    }

    static void toBeFetchedSetsTheMinute() {
        Cachebench x = by(0, 2, 10, 2);
        ask(x, "abc");
        x.pass(6);
        ask(x, "a");
        due("fetched", order(x, 0), "ab");
        due("at 15", x.pass(9), 0);
        due("at 16", x.pass(1), 2);
    }

    /** When a dirty key leaves a cache, in whatever way but by emptying the cache, this is a writing. */
    static void aDirtyKeyIsPutOut() {
        for (int rule = 0; rule <= 6; rule++) {
            Cachebench x = by(rule, 1, 0, 1);
            ask(x, "a!");
            due("kept back, rule " + rule, x.count(0, 4), 0);
            ask(x, "b");
            due("put out, rule " + rule, x.count(0, 4), 1);
            ask(x, "a");
            due("it comes in clean, and what goes was clean, rule " + rule, x.isDirty(0, 0) + " " + x.count(0, 4), "false 1");
        }
    }

    static void aDirtyKeyIsPutOutForOneThatIsFetched() {
        Cachebench x = by(0, 2, 0, 3);
        ask(x, "abc!");
        due("kept back", x.count(0, 4), 0);
        ask(x, "a");
        due("c went for b", order(x, 0) + x.count(0, 4) + x.count(0, 2), "ab13");
    }

    static void aDirtyKeyLapses() {
        Cachebench x = by(0, 4, 3, 1);
        ask(x, "a!b!c");
        due("all lapse", x.pass(3), 3);
        due("two were dirty", x.count(0, 4), 2);
    }

    static void aDirtyKeyIsDropped() {
        Cachebench x = by(0, 4, 0, 1);
        ask(x, "a!bc!d");
        due("dirty", x.drop(0, 0), true);
        due("a writing", x.count(0, 4), 1);
        due("not dirty", x.drop(0, 1), false);
        due("no writing", x.count(0, 4), 1);
        x.open(0);
        x.next();
        x.dropTold();
        due("a writing by the cursor", x.count(0, 4), 2);
        x.next();
        x.dropTold();
        due("none by the cursor", x.count(0, 4), 2);
    }

    static void aDirtyKeyOfACacheThatIsEmptied() {
        Cachebench x = by(0, 4, 0, 1);
        ask(x, "a!");
        x.replay();
        due("replayed", x.count(0, 4) + " " + x.isDirty(0, 0), "0 true");
        x.clearRow();
        due("cleared", x.count(0, 4) + " " + x.isDirty(0, 0), "0 false");
        ask(x, "a!");
        x.setCache(0, 0, 4, 0, 1);
        due("set up anew", x.count(0, 4) + " " + x.isDirty(0, 0), "0 false");
        ask(x, "ab");
        x.drop(0, 0);
        due("clean behind it", x.count(0, 4), 0);
    }

    /** To empty a cache: it holds nothing, all its counts are 0, and it was fed with no request. */
    static void anEmptiedCache() {
        Cachebench x = by(0, 2, 1, 3);
        x.setKey(25, 3, 1, 0);
        ask(x, "abca!bz!z");
        x.pass(1);
        due("counts ahead", counts(x, 0), "1 6 4 2 2 2 2 1 6");
        due("it held none", x.setCache(0, 0, 2, 1, 3), 0);
        due("counts", counts(x, 0), "0 0 0 0 0 0 0 0 0");
        for (int key = 0; key < 26; key++) {
            due("count of " + key, x.countOf(0, key, true) + x.countOf(0, key, false), 0);
        }
        for (int request = 0; request < 7; request++) {
            due("outcome of " + request, x.outcome(0, request), -1);
        }
        due("hits", x.hitsBetween(0, 0, 6), 0);
        due("share", x.hitShare(0), 0.0);
        ask(x, "ab");
        due("what is fed from then on", "" + x.outcome(0, 6) + x.outcome(0, 7) + x.outcome(0, 8), "-111");
    }

    static void anEmptiedCacheKnowsNothingToFetch() {
        Cachebench x = by(0, 2, 0, 2);
        ask(x, "abc");
        x.setCache(0, 0, 2, 0, 2);
        ask(x, "a");
        due("set up anew", order(x, 0) + x.count(0, 6), "a0");
        ask(x, "bca");
        due("from then on", order(x, 0) + x.count(0, 6), "ab1");
        x.clearRow();
        ask(x, "a");
        due("cleared", order(x, 0) + x.count(0, 6), "a0");
        Cachebench y = by(0, 2, 0, 2);
        ask(y, "ab");
        y.setCache(0, 0, 2, 0, 2);
        ask(y, "cba");
        due("the request that came right behind one it wasn't fed with", order(y, 0) + y.count(0, 6), "ba0");
    }

    static void anEmptiedCacheCountsRequestsAnew() {
        Cachebench x = by(1, 2, 0, 0);
        ask(x, "aaab");
        x.setCache(0, 1, 2, 0, 0);
        ask(x, "abc");
        due("set up anew", order(x, 0), "bc");
        x.clearRow();
        ask(x, "ccca");
        x.clearRow();
        ask(x, "cab");
        due("cleared", order(x, 0), "ab");
    }

    static void anEmptiedCacheForgets() {
        Cachebench x = with(4, 4, 1, 0, 0);
        ask(x, "ab");
        due("remembered", x.remembers(4, 0), true);
        x.clearRow();
        due("cleared", x.cacheAt(4, 7), 0);
        ask(x, "ab");
        x.setCache(4, 4, 1, 0, 0);
        due("set up anew", x.remembers(4, 0), false);
        ask(x, "ab");
        x.replay();
        due("replayed, only the row counts", keysWhere(x, key -> x.remembers(4, key)), "a");
    }

    static void anEmptiedCacheHasTheLevel0() {
        Cachebench x = by(5, 1, 0, 0);
        ask(x, "ab");
        due("level", x.worth(0, -1), 840L);
        x.clearRow();
        due("cleared", x.worth(0, -1), 0L);
        ask(x, "ab");
        x.replay();
        due("replayed", x.worth(0, -1), 840L);
        x.setCache(0, 5, 1, 0, 0);
        due("set up anew", x.worth(0, -1), 0L);
    }

    static void anEmptiedCacheHasNoMarks() {
        Cachebench x = by(3, 2, 0, 0);
        ask(x, "aa");
        x.clearRow();
        ask(x, "abc");
        due("a came in without a mark", order(x, 0), "bc");
    }

    static void anEmptiedCacheHasNoFetchedKeys() {
        Cachebench x = by(0, 2, 0, 2);
        ask(x, "abca");
        x.clearRow();
        ask(x, "bb");
        due("b was not fetched", x.count(0, 7), 0);
    }

    static void anEmptiedCacheHasNoOldKeys() {
        Cachebench x = by(4, 4, 0, 0);
        ask(x, "abcdea");
        due("a is old", order(x, 0), "cdea");
        x.clearRow();
        ask(x, "abcd");
        due("a is young", order(x, 0) + x.victim(0, 25), "abcd0");
        ask(x, "e");
        due("it is remembered", x.remembers(0, 0), true);
    }

    static void itsShadowsAreEmptiedWithIt() {
        Cachebench x = with(5, 6, 2, 0, 0);
        ask(x, "aaabbca");
        due("leans to fewest", x.leaning(5), 1);
        x.setCache(5, 6, 2, 0, 0);
        due("set up anew", x.leaning(5), 0);
        ask(x, "aaabbca");
        x.clearRow();
        due("cleared", x.leaning(5), 0);
        due("no shadow holds it", x.setKey(0, 2, 1, 0), 1);
    }

    /** Its rule, room, lapse, mode and shares stay. */
    static void whatStaysWhenACacheIsEmptied() {
        Cachebench x = by(4, 7, 13, 3);
        x.setShares(0, 1, 2, 3, 1);
        ask(x, "ab");
        x.clearRow();
        due("cleared", seen(x), "4 7 13 3, 1 2 3 1");
        x.replay();
        due("replayed", seen(x), "4 7 13 3, 1 2 3 1");
    }

    private static String seen(Cachebench x) {
        return x.cacheAt(0, 0) + " " + x.cacheAt(0, 1) + " " + x.cacheAt(0, 2) + " " + x.cacheAt(0, 3) + ", " + x.ownerAt(0, 0, true)
            + " " + x.ownerAt(0, 1, true) + " " + x.ownerAt(0, 2, true) + " " + x.ownerAt(0, 3, true);
    }

    // ---- 3. A request in a cache, step 1

    /** A miss costs the cost of x. */
    static void aMissCosts() {
        Cachebench x = by(0, 4, 0, 0);
        x.setKey(0, 1, 0, 0);
        x.setKey(1, 1, 1000, 0);
        x.setKey(2, 8, 500, 0);
        ask(x, "a");
        due("nothing", x.count(0, 8), 0);
        ask(x, "b");
        due("the greatest cost", x.count(0, 8), 1000);
        ask(x, "bb");
        due("a hit costs nothing", x.count(0, 8), 1000);
        ask(x, "c");
        due("what passes by is a miss", x.count(0, 8) + " " + x.count(0, 1), "1500 3");
    }

    /** If the size of x is above the room, x passes by. */
    static void theSizeOfTheRoomComesIn() {
        for (int rule = 0; rule <= 6; rule++) {
            Cachebench x = by(rule, 8, 0, 0);
            x.setKey(25, 8, 1, 0);
            ask(x, "abcdefghz");
            due("rule " + rule, x.outcome(0, 8) + " " + order(x, 0) + " " + x.count(0, 2) + " " + x.count(0, 5), "1 z 8 0");
        }
    }

    static void theSizeAboveTheRoomPassesBy() {
        for (int rule = 0; rule <= 6; rule++) {
            Cachebench x = by(rule, 7, 0, 0);
            x.setKey(25, 8, 1, 0);
            ask(x, "abcdefgz");
            due("rule " + rule, x.outcome(0, 7) + " " + order(x, 0) + " " + x.count(0, 2) + " " + x.count(0, 5), "2 abcdefg 0 1");
            ask(x, "z");
            due("again", x.outcome(0, 8) + " " + x.count(0, 5) + " " + x.count(0, 1) + " " + x.countOf(0, 25, false), "2 2 9 2");
        }
    }

    /** Otherwise keys are put out until there is room for x: one more than is needed never is. */
    static void keysArePutOutUntilThereIsRoom() {
        Cachebench x = by(0, 8, 0, 0);
        x.setKey(25, 3, 1, 0);
        ask(x, "abcdez");
        due("just room", order(x, 0) + x.count(0, 2), "abcdez0");
        x.clearRow();
        ask(x, "abcdefz");
        due("one unit too few", order(x, 0) + x.count(0, 2), "bcdefz1");
        x.clearRow();
        ask(x, "abcdefghz");
        due("three units too few", order(x, 0) + x.count(0, 2), "defghz3");
    }

    static void aGreatKeyIsPutOutForASmallOne() {
        Cachebench x = by(0, 8, 0, 0);
        x.setKey(25, 8, 1, 0);
        ask(x, "za");
        due("the great one is put out", order(x, 0) + x.count(0, 2) + x.cacheAt(0, 5), "a11");
    }

    // ---- step 2

    static void aWriteThatIsNotKeptBack() {
        for (int mode = 0; mode <= 2; mode += 2) {
            Cachebench x = by(0, 4, 0, mode);
            ask(x, "a!");
            due("at a miss", x.count(0, 4) + " " + x.isDirty(0, 0), "1 false");
            ask(x, "a!");
            due("at a hit", x.count(0, 4) + " " + x.isDirty(0, 0), "2 false");
            ask(x, "ab");
            due("to read is none", x.count(0, 4), 2);
        }
    }

    static void aWriteThatIsKeptBack() {
        for (int mode = 1; mode <= 3; mode += 2) {
            Cachebench x = by(0, 4, 0, mode);
            ask(x, "a!b!a!b");
            due("dirty", x.count(0, 4) + " " + x.isDirty(0, 0) + " " + x.isDirty(0, 1) + " " + x.cacheAt(0, 6), "0 true true 2");
            x.drop(0, 0);
            due("written twice, one writing", x.count(0, 4), 1);
        }
    }

    static void aWriteThatPassesBy() {
        for (int mode = 0; mode <= 3; mode++) {
            Cachebench x = by(0, 4, 0, mode);
            x.setKey(25, 5, 1, 0);
            ask(x, "z!");
            due("mode " + mode, x.count(0, 4) + " " + x.isDirty(0, 25) + " " + x.cacheAt(0, 6), "1 false 0");
            ask(x, "z");
            due("to read is none", x.count(0, 4), 1);
        }
    }

    // ---- step 3

    /** If the cache fetches ahead: by the modes 2 and 3 alone. */
    static void theModesThatFetch() {
        int[] fetched = {0, 0, 1, 1};
        for (int mode = 0; mode <= 3; mode++) {
            Cachebench x = by(0, 2, 0, mode);
            ask(x, "abca");
            due("mode " + mode, x.count(0, 6), fetched[mode]);
        }
    }

    /** If there is such a request: none at the first request for x. */
    static void nothingIsFetchedAtAFirstRequest() {
        Cachebench x = by(0, 4, 0, 2);
        ask(x, "a");
        due("the first request of all", x.count(0, 6), 0);
        ask(x, "bcdefg");
        due("first requests", x.count(0, 6) + order(x, 0), "0defg");
    }

    /** Right behind the latest request for x, not behind an earlier one. */
    static void theLatestRequestTells() {
        Cachebench x = by(0, 3, 0, 2);
        ask(x, "abacdef");
        due("ahead of it", x.count(0, 6), 0);
        ask(x, "a");
        due("c, not b", order(x, 0), "fac");
    }

    /** If it is the one right ahead of this one, y is x. */
    static void theRequestRightAhead() {
        Cachebench x = by(0, 1, 0, 2);
        x.setKey(25, 2, 1, 0);
        ask(x, "aazz");
        due("nothing", x.count(0, 6) + order(x, 0), "0a");
    }

    /** If y is not x. */
    static void yIsX() {
        Cachebench x = by(0, 2, 0, 2);
        ask(x, "aabca");
        due("b is behind the latest one", order(x, 0) + x.count(0, 6), "ab1");
        Cachebench y = by(0, 1, 0, 2);
        y.setKey(0, 2, 1, 0);
        ask(y, "aaba");
        due("b is behind it, held", order(y, 0) + y.count(0, 6), "b0");
        ask(y, "aa");
        due("y is x, which passed by", order(y, 0) + y.count(0, 6), "b0");
    }

    /** If y is not held. */
    static void yIsHeld() {
        Cachebench x = by(0, 4, 0, 2);
        ask(x, "abca");
        due("b is held", order(x, 0) + x.count(0, 6), "bca0");
    }

    /** If its size and, if x is held, that of x together are not above the room. */
    static void yAndXTogether() {
        Cachebench x = by(0, 5, 0, 2);
        x.setKey(0, 2, 1, 0);
        x.setKey(1, 3, 1, 0);
        ask(x, "abcdefa");
        due("just the room", order(x, 0) + x.count(0, 6) + x.cacheAt(0, 5), "ab15");
        Cachebench y = by(0, 4, 0, 2);
        y.setKey(0, 2, 1, 0);
        y.setKey(1, 3, 1, 0);
        ask(y, "abcdefa");
        due("one unit above it", order(y, 0) + y.count(0, 6), "efa0");
    }

    static void yBesideAnXThatPassedBy() {
        Cachebench x = by(0, 3, 0, 2);
        x.setKey(0, 4, 1, 0);
        x.setKey(1, 3, 1, 0);
        ask(x, "abcdea");
        due("y alone is the room", order(x, 0) + x.count(0, 6) + x.count(0, 2), "b14");
        Cachebench y = by(0, 3, 0, 2);
        y.setKey(0, 4, 1, 0);
        y.setKey(1, 4, 1, 0);
        ask(y, "abcdea");
        due("y alone is above it", order(y, 0) + y.count(0, 6), "cde0");
    }

    /** Keys but x are put out until there is room for y. */
    static void xStaysForY() {
        for (int rule = 0; rule <= 6; rule++) {
            Cachebench x = by(rule, 3, 0, 2);
            x.setKey(1, 2, 1, 0);
            ask(x, "abcdef");
            String ahead = order(x, 0);
            ask(x, "a");
            String kept = keysWhere(x, key -> x.holds(0, key));
            due("rule " + rule + ", behind " + ahead, kept + x.count(0, 6), "ab1");
        }
    }

    static void onlyUntilThereIsRoomForY() {
        Cachebench x = by(0, 4, 0, 2);
        ask(x, "abcdef");
        ask(x, "a");
        due("one is put out for x, one for y", order(x, 0) + x.count(0, 2), "efab4");
        Cachebench y = by(0, 4, 0, 2);
        ask(y, "abcd");
        y.drop(0, 1);
        ask(y, "a");
        due("just room for y", order(y, 0) + y.count(0, 2) + y.count(0, 6), "cdab01");
    }

    /** Y comes in, not dirty: it is fetched. (This is no request, hit or miss.) */
    static void toBeFetchedIsNoRequest() {
        Cachebench x = by(0, 2, 0, 3);
        x.setKey(1, 1, 100, 0);
        ask(x, "ab!c");
        due("counts", counts(x, 0), "0 3 1 0 0 0 0 0 102");
        ask(x, "a!");
        due("b came in", order(x, 0) + " " + x.isDirty(0, 1) + x.isDirty(0, 0), "ab falsetrue");
        due("counts", counts(x, 0), "0 4 3 0 1 0 1 0 103");
        due("of b", "" + x.countOf(0, 1, true) + x.countOf(0, 1, false) + x.keyAt(1, 3) + x.rowLength(), "0114");
    }

    static void aHitFetchesToo() {
        Cachebench x = by(0, 3, 0, 2);
        ask(x, "abc");
        x.drop(0, 1);
        ask(x, "a");
        due("a hit", order(x, 0) + x.outcome(0, 3) + x.count(0, 6), "cab01");
    }

    /** The first hit on a key that was fetched, and was held since then, is useful. */
    static void onlyTheFirstHitIsUseful() {
        Cachebench x = by(0, 2, 0, 2);
        ask(x, "abca");
        due("not yet", x.count(0, 7), 0);
        ask(x, "b");
        due("the first hit", x.count(0, 7) + " " + x.count(0, 0), "1 1");
        ask(x, "bb");
        due("others", x.count(0, 7) + " " + x.count(0, 0), "1 3");
        ask(x, "c");
        due("on the other key that was fetched", x.count(0, 7) + " " + x.count(0, 0), "2 4");
        Cachebench y = by(0, 2, 0, 2);
        ask(y, "abba");
        due("on keys that were not fetched", y.count(0, 7) + " " + y.count(0, 0), "0 2");
    }

    static void aFetchedKeyThatWasNotHeldSinceThen() {
        Cachebench x = by(0, 2, 0, 2);
        ask(x, "abca");
        x.drop(0, 1);
        ask(x, "b");
        due("dropped, and came in by a request", x.outcome(0, 4), 1);
        ask(x, "b");
        due("a hit, not useful", x.outcome(0, 5) + " " + x.count(0, 7), "0 0");
        Cachebench y = by(0, 2, 5, 2);
        ask(y, "abca");
        y.pass(5);
        ask(y, "bb");
        due("it lapsed", y.outcome(0, 5) + " " + y.count(0, 7), "0 0");
        Cachebench z = by(0, 2, 0, 2);
        ask(z, "abcadefbb");
        due("it was put out", z.outcome(0, 8) + " " + z.count(0, 7), "0 0");
    }

    static void aKeyThatIsFetchedAgain() {
        Cachebench x = by(0, 2, 0, 2);
        ask(x, "abcab");
        due("b, and c behind it", x.count(0, 6) + " " + x.count(0, 7), "2 1");
        x.drop(0, 1);
        ask(x, "a");
        due("b again", x.count(0, 6) + " " + order(x, 0), "3 ab");
        ask(x, "b");
        due("useful again", x.count(0, 7), 2);
    }

    /** Two that were fetched stand beside two that were not, and each one's first hit is useful. */
    static void severalFetchedKeysAtOnce() {
        Cachebench x = by(0, 4, 0, 2);
        ask(x, "abcdefghac");
        due("b behind a, d behind c", order(x, 0) + " " + x.count(0, 6), "abcd 2");
        ask(x, "b");
        due("the first of them", x.count(0, 7), 1);
        ask(x, "c");
        due("c came in by a request", x.outcome(0, 11) + " " + x.count(0, 7), "0 1");
        ask(x, "d");
        due("the second one", x.outcome(0, 12) + " " + x.count(0, 7), "0 2");
    }

    /** The last key is fetched, tells what is fetched, and lapses, as each other one. */
    static void theLastKey() {
        Cachebench x = by(0, 2, 0, 2);
        ask(x, "abcz");
        due("nothing at its first request", order(x, 0) + " " + x.count(0, 6), "cz 0");
        Cachebench y = by(0, 2, 0, 2);
        ask(y, "azbcaz");
        due("it was fetched", y.count(0, 6) + " " + y.count(0, 7), "2 1");
        due("b behind it", order(y, 0), "zb");
        Cachebench z = by(0, 2, 3, 1);
        z.pass(5);
        ask(z, "z");
        z.pass(2);
        ask(z, "z!");
        due("not yet", z.pass(2), 0);
        due("it lapses", z.pass(1) + " " + z.count(0, 3) + " " + z.count(0, 4), "1 1 1");
    }

    // ---- shares

    /** Of an owner who has more than the share: just the share is not more. */
    static void justTheShareIsNotMore() {
        Cachebench x = keysOf(keysOf(by(0, 4, 0, 0), 1, 4, 5), 2, 25);
        x.setShares(0, 2, 1, 0, 0);
        ask(x, "abef");
        due("the owner 1 has more", x.victim(0, 25), 4);
        x.setShares(0, 1, 2, 0, 0);
        due("the owner 0 has more", x.victim(0, 25), 0);
        ask(x, "ab");
        due("the owner 0 has more still", x.victim(0, 25), 0);
        x.setShares(0, 2, 2, 0, 0);
        due("nobody has more whose keys are held", x.victim(0, 25), 4);
    }

    /** At least one of these keys is of an owner who has more: if none is, all can go. */
    static void onlyTheKeyThatComesInIsOfSuchAnOwner() {
        Cachebench x = keysOf(by(0, 3, 0, 0), 3, 25);
        x.setShares(0, 3, 0, 0, 0);
        ask(x, "abcz");
        due("the longest unused goes", order(x, 0), "bcz");
        ask(x, "a");
        due("then the owner 3 has more", order(x, 0), "bca");
    }

    /** The sizes of the keys held of this owner, and that of the key that comes in, if it is of this owner. */
    static void theSizeOfTheKeyThatComesInCounts() {
        Cachebench x = keysOf(by(0, 4, 0, 0), 1, 4);
        x.setKey(25, 2, 1, 0);
        x.setShares(0, 3, 1, 0, 0);
        ask(x, "eab");
        due("2 and 2 are more than 3", x.victim(0, 25), 0);
        x.setShares(0, 4, 0, 0, 0);
        due("2 and 2 are not more than 4, 1 is more than 0", x.victim(0, 25), 4);
        Cachebench y = keysOf(by(0, 4, 0, 0), 1, 4);
        y.setKey(0, 2, 1, 0);
        y.setShares(0, 2, 2, 0, 0);
        ask(y, "eab");
        due("sizes, not numbers of keys", y.victim(0, 25), 0);
    }

    /** This is looked at anew for each key that is put out. */
    static void sharesAreLookedAtAnew() {
        Cachebench x = keysOf(by(0, 4, 0, 0), 1, 4, 5);
        x.setKey(25, 2, 1, 2);
        x.setShares(0, 1, 2, 0, 0);
        ask(x, "efabz");
        due("a as the owner 0 has more, then e", order(x, 0), "fbz");
    }

    /** All that are held (but x, when y is fetched). */
    static void xStaysThoughOnlyItsOwnerHasMore() {
        Cachebench x = keysOf(by(0, 3, 0, 2), 2, 0);
        x.setShares(0, 3, 0, 0, 0);
        ask(x, "abcda");
        due("b for a, c for b", order(x, 0), "dab");
        Cachebench y = keysOf(by(0, 3, 0, 2), 2, 0, 3);
        y.setShares(0, 3, 0, 0, 0);
        ask(y, "abcd");
        y.drop(0, 1);
        ask(y, "a");
        due("d for b, the other one of its owner", order(y, 0), "cab");
    }

    /** Four times 0 means that it has no shares. */
    static void fourTimesNoShare() {
        Cachebench x = keysOf(by(0, 3, 0, 0), 1, 4);
        ask(x, "abe");
        due("without shares", x.setShares(0, 0, 0, 0, 0), 0);
        due("all can go", x.victim(0, 5), 0);
        due("shares for an owner without keys", x.setShares(0, 0, 0, 0, 1), 2);
        due("both have more", x.victim(0, 5), 0);
        due("owner 1 has more", x.setShares(0, 3, 0, 0, 0), 1);
        due("its key goes", x.victim(0, 25), 4);
        due("owner 0 has more", x.setShares(0, 0, 1, 0, 0), 1);
        due("its key goes", x.victim(0, 25), 0);
    }

    static void oneShareAlone() {
        for (int owner = 0; owner < 4; owner++) {
            Cachebench x = keysOf(by(0, 3, 0, 0), owner, 1, 2);
            x.setKey(0, 1, 1, (owner + 1) % 4);
            x.setKey(25, 1, 1, (owner + 2) % 4);
            ask(x, "bca");
            due("without shares", x.victim(0, 25), 1);
            due("one has more", x.setShares(0, owner == 0 ? 2 : 0, owner == 1 ? 2 : 0, owner == 2 ? 2 : 0, owner == 3 ? 2 : 0), 1);
            due("a share of the owner " + owner + " alone", x.victim(0, 25), 0);
        }
    }

    // ---- lapse

    /** A key lapses, if the cache has a lapse, as soon as so many minutes have passed since its minute. */
    static void asSoonAsItLapses() {
        for (int lapse : new int[] {1, 2, 999, 1000}) {
            Cachebench x = by(0, 4, lapse, 0);
            ask(x, "ab");
            if (lapse > 1) due("lapse " + lapse + ", a minute ahead", x.pass(lapse - 1), 0);
            due("lapse " + lapse + ", held", order(x, 0), "ab");
            due("lapse " + lapse, x.pass(1), 2);
            due("lapse " + lapse + ", gone", order(x, 0) + x.count(0, 3), "2");
        }
    }

    static void longPastTheLapse() {
        Cachebench x = by(0, 4, 1, 0);
        ask(x, "abcd");
        due("all four", x.pass(1000), 4);
        due("none any more", x.pass(1000), 0);
    }

    static void withoutALapse() {
        Cachebench x = by(0, 4, 0, 0);
        ask(x, "abcd");
        for (int i = 0; i < 20; i++) {
            due("none lapses", x.pass(1000), 0);
        }
        due("all are held", order(x, 0), "abcd");
    }

    /** To lapse, or to be dropped, is not to be put out: no count, not remembered, the level stays. */
    static void toLapseIsNotToBePutOut() {
        Cachebench x = by(5, 4, 2, 0);
        x.setCache(4, 4, 4, 2, 0);
        ask(x, "ab");
        due("two in each", x.pass(2), 4);
        due("not put out", x.count(0, 2) + x.count(4, 2), 0);
        due("the level stays", x.worth(0, -1), 0L);
        due("not remembered", x.cacheAt(4, 7), 0);
    }

    static void toBeDroppedIsNotToBePutOut() {
        Cachebench x = by(5, 4, 0, 0);
        ask(x, "ab");
        for (int cache : new int[] {0, 4}) {
            x.drop(cache, 0);
            x.open(cache);
            x.next();
            x.dropTold();
        }
        due("not put out", x.count(0, 2) + x.count(4, 2), 0);
        due("nor lapsed", x.count(0, 3) + x.count(4, 3), 0);
        due("the level stays", x.worth(0, -1), 0L);
        due("not remembered", x.cacheAt(4, 7), 0);
        due("nothing is held", x.cacheAt(0, 4) + x.cacheAt(4, 4), 0);
    }

    public static void main(String[] args) {
        runAll(CacheEdgesTest.class);
    }
}
