/** Section 4 of the document: the edges of each rule, and the order of a cache, by a test for each sentence. */
public final class RuleEdgesTest extends Checks {

    private static final int KEY_Z = 25;

    private static Cachebench by(int rule, int room) {
        return with(0, rule, room, 0, 0);
    }

    private static String afterAsking(Cachebench x, String text) {
        ask(x, text);
        return order(x, 0);
    }

    private static String remembered(Cachebench x) {
        return keysWhere(x, key -> x.remembers(0, key));
    }

    // ---- 0 LAST_USE

    /** A key that is asked while it is held, or that comes in, is used. */
    static void lastUse() {
        due("a hit is a use", afterAsking(by(0, 3), "abca"), "bca");
        due("to come in anew too", afterAsking(by(0, 3), "abcda"), "cda");
        due("the key used last stays first of all", afterAsking(by(0, 2), "aabb"), "ab");
    }

    static void whatPassesByIsNotUsed() {
        Cachebench x = by(0, 2);
        x.setKey(KEY_Z, 3, 1, 0);
        due("the order stays", afterAsking(x, "abz"), "ab");
    }

    /** When a key is fetched, it is used behind x. */
    static void aFetchedKeyIsUsedBehindX() {
        Cachebench x = with(0, 0, 3, 0, 2);
        due("x, then y", afterAsking(x, "abcdea"), "eab");
        due("the next one goes ahead of both", x.victim(0, KEY_Z), 4);
    }

    // ---- 1 FEWEST

    /** The one with the fewest requests; of like ones the one that was asked longest ago (by its latest request). */
    static void fewestOfLikeOnes() {
        due("one request each", afterAsking(by(1, 3), "abcd"), "bcd");
        due("one more counts more than late", afterAsking(by(1, 2), "aabc"), "ca");
        due("by the latest request, not by coming in", afterAsking(by(1, 2), "abba"), "ba");
        due("b went", afterAsking(by(1, 2), "abbac"), "ca");
    }

    /** All requests with which the cache was fed count, also those at which the key was not held. */
    static void fewestCountsAllRequests() {
        due("b has two, as it came in twice", afterAsking(by(1, 2), "aabcbc"), "bc");
        Cachebench x = by(1, 2);
        ask(x, "aaabb");
        x.drop(0, 0);
        due("of a before it was dropped", afterAsking(x, "cad"), "da");
        Cachebench y = by(1, 3);
        y.setKey(KEY_Z, 4, 1, 0);
        due("what passes by leaves the others", afterAsking(y, "abczzz"), "abc");
    }

    /** To be fetched is no request. */
    static void fewestAndFetchedKeys() {
        Cachebench x = with(0, 1, 2, 0, 2);
        due("b has one request still", afterAsking(x, "abca"), "ba");
        due("so it goes", x.victim(0, KEY_Z), 1);
    }

    /** Many requests do not run into the place of the latest one, nor it into them. */
    static void fewestInAFullRow() {
        for (int seed = 1; seed <= 40; seed++) {
            Cachebench x = by(1, 20);
            for (int part = 0; part < 6; part++) {
                x.draw(31 * seed + part, 50, part % 2 == 0 ? 2 : 1 + seed % 12, 0);
                if (part > 3) dueByFewest(x);
            }
        }
        Cachebench y = by(1, 20);
        ask(y, "50(ab)50(ab)49(ab)c");
        due("149, 149 and 1", order(y, 0), "cab");
        due("the last request of a full row", afterAsking(y, "a"), "cba");
        Cachebench z = by(1, 20);
        ask(z, "b50(c)50(c)50(c)50(c)50(c)47(c)a");
        due("each is asked", order(z, 0), "bac");
        due("2 are more than 1, not more than 297", afterAsking(z, "a"), "bac");
    }

    private static void dueByFewest(Cachebench x) {
        for (int place = 1; place < x.cacheAt(0, 4); place++) {
            int ahead = x.keyInOrder(0, place - 1);
            int behind = x.keyInOrder(0, place);
            int more = x.keyAt(behind, 3) - x.keyAt(ahead, 3);
            due("in its order", more > 0 || more == 0 && latest(x, ahead) < latest(x, behind), true);
        }
    }

    private static int latest(Cachebench x, int key) {
        int request = x.rowLength() - 1;
        while (x.requestAt(request, 0) != key) request--;
        return request;
    }

    // ---- 2 FIRST_IN

    /** The one that came in longest ago. */
    static void firstIn() {
        due("a hit leaves it first", afterAsking(by(2, 3), "abcaa"), "abc");
        due("it goes", afterAsking(by(2, 3), "abcaad"), "bcd");
        due("it comes in anew as the last", afterAsking(by(2, 3), "abcda"), "cda");
        due("y behind x", afterAsking(with(0, 2, 3, 0, 2), "abcdea"), "eab");
    }

    // ---- 3 SECOND_CHANCE

    /** A key that comes in comes to its end, without a mark; a hit marks the key. */
    static void aKeyComesInWithoutAMark() {
        due("first in, first out", afterAsking(by(3, 3), "abcde"), "cde");
        due("a hit saves a once", afterAsking(by(3, 3), "abcad"), "cad");
        due("only once", afterAsking(by(3, 3), "abcadef"), "def");
        Cachebench x = by(3, 2);
        ask(x, "aab");
        x.drop(0, 0);
        due("no mark from the time before it was dropped", afterAsking(x, "acd"), "cd");
        due("no mark from the time before it was put out", afterAsking(by(3, 2), "aabcdaef"), "ef");
    }

    static void aFetchedKeyComesInWithoutAMark() {
        Cachebench x = with(0, 3, 3, 0, 2);
        ask(x, "abcde");
        due("x, then y", afterAsking(x, "a"), "eab");
        due("e goes, then x and y", afterAsking(x, "fgh"), "fgh");
    }

    /** If it has a mark, it loses it and comes to the end; so on, until one is put out: also if all have marks. */
    static void allHaveMarks() {
        Cachebench x = by(3, 3);
        ask(x, "abccba");
        due("the first is told", x.victim(0, KEY_Z), 0);
        due("nothing moved by that", order(x, 0), "abc");
        due("the first goes", afterAsking(x, "d"), "bcd");
        due("the marks are lost", afterAsking(x, "ef"), "def");
        Cachebench y = by(3, 1);
        due("one key with a mark", afterAsking(y, "aaaab"), "b");
        Cachebench z = by(3, 20);
        due("twenty with marks", afterAsking(z, "2(abcdefghijklmnopqrst)u"), "bcdefghijklmnopqrstu");
        due("all marks are lost", afterAsking(z, "vwx"), "efghijklmnopqrstuvwx");
    }

    static void theMarkedOnesComeToTheEnd() {
        due("a and b behind c, d", afterAsking(by(3, 4), "abcdabe"), "dabe");
        due("only those ahead of the one that goes", afterAsking(by(3, 4), "abcdadf"), "cdaf");
        due("d keeps its mark", afterAsking(by(3, 4), "abcdadfghi"), "gdhi");
    }

    /** If it can't go, it comes to the end as it is. */
    static void whatCantGoKeepsItsMark() {
        Cachebench x = by(3, 3);
        x.setKey(1, 1, 1, 1);
        x.setShares(0, 1, 2, 0, 0);
        ask(x, "bacb");
        due("a is told", x.victim(0, 3), 0);
        due("b comes to the end", afterAsking(x, "d"), "cbd");
        x.setShares(0, 0, 0, 0, 0);
        due("with its mark", afterAsking(x, "ef"), "ebf");
        due("that it loses then", afterAsking(x, "gh"), "fgh");
    }

    static void whatCantGoGetsNoMark() {
        Cachebench x = by(3, 3);
        x.setKey(1, 1, 1, 1);
        x.setShares(0, 1, 2, 0, 0);
        due("b comes to the end", afterAsking(x, "bacd"), "cbd");
        x.setShares(0, 0, 0, 0, 0);
        due("it has none", afterAsking(x, "ef"), "def");
    }

    /** Only marked ones can go, and others can't: the queue is gone through more than once. */
    static void onlyMarkedOnesCanGo() {
        Cachebench x = by(3, 3);
        x.setKey(0, 1, 1, 1);
        x.setKey(2, 1, 1, 1);
        x.setShares(0, 3, 0, 0, 0);
        ask(x, "abcac");
        due("a is told", x.victim(0, 3), 0);
        due("b can't go, a goes, c lost its mark", afterAsking(x, "d"), "bcd");
        due("c goes", afterAsking(x, "e"), "dbe");
    }

    static void theQueueIsGoneThroughTwice() {
        Cachebench x = by(3, 20);
        for (int key = 0; key < 10; key++) x.setKey(key, 1, 1, 1);
        x.setShares(0, 5, 15, 0, 0);
        ask(x, "abcdefghijklmnopqrstklmnopqrst");
        due("k is told", x.victim(0, KEY_Z), 10);
        due("a to j can't go, twice; the others lose their marks", afterAsking(x, "z"), "lmnopqrstabcdefghijz");
        due("as they have none any more", afterAsking(x, "yx"), "nopqrstabcdefghijzyx");
    }

    static void xKeepsItsMarkWhenYIsFetched() {
        Cachebench x = with(0, 3, 2, 0, 2);
        ask(x, "ab");
        x.drop(0, 1);
        ask(x, "c");
        due("c goes for b", afterAsking(x, "a"), "ab");
        due("a has the mark of the hit", afterAsking(x, "d"), "ad");
    }

    // ---- 4 TWO_QUEUES

    /** The young ones have a quarter of the room, rounded down, but at least 1 unit. */
    static void aQuarterOfEachRoom() {
        int[] quarters = {0, 1, 1, 1, 1, 1, 1, 1, 2, 2, 2, 2, 3, 3, 3, 3, 4, 4, 4, 4, 5};
        for (int room = 2; room <= 20; room++) {
            Cachebench x = by(4, room);
            for (int key = 0; key <= room; key++) x.request(key, false);
            int old = 0;
            for (; old < room - quarters[room] - 1; old++) x.request(old, false);
            due("a unit above it, room " + room, x.victim(0, KEY_Z), old + 1);
            x.request(old, false);
            due("not above it, room " + room, x.victim(0, KEY_Z), 0);
        }
    }

    static void theLeastRoomHasOneYoungUnit() {
        Cachebench x = by(4, 1);
        due("no old key can go", afterAsking(x, "ab") + remembered(x), "ba");
    }

    /** If the sizes of the young keys that are held together are above this. */
    static void sizesOfYoungKeys() {
        for (int size = 2; size <= 3; size++) {
            Cachebench x = by(4, 8);
            x.setKey(KEY_Z, size, 1, 0);
            x.setKey(24, 3, 1, 0);
            ask(x, "abcdefghiaz");
            for (char key = 'd'; key <= 'i'; key++) {
                if (x.holds(0, key - 'a')) x.drop(0, key - 'a');
            }
            ask(x, "bcd");
            due("young of the size " + size, order(x, 0).substring(0, 2), "za");
            due("whether it is above 2", x.victim(0, 24), size == 2 ? 0 : KEY_Z);
        }
    }

    /** Or no old key can go: the young key that came in longest ago goes (of those that can). */
    static void noOldKeyCanGo() {
        Cachebench x = by(4, 4);
        x.setKey(4, 1, 1, 1);
        ask(x, "abcdeabc");
        due("one young, three old", order(x, 0), "eabc");
        due("the young are not above a quarter", x.victim(0, KEY_Z), 0);
        x.setShares(0, 4, 0, 0, 0);
        due("only the young one can go", x.victim(0, KEY_Z), 4);
        due("it goes, and is remembered", afterAsking(x, "z") + remembered(x), "zabcde");
    }

    /** If no young key can go: the old one that was used longest ago. */
    static void noYoungKeyCanGo() {
        Cachebench x = by(4, 4);
        x.setKey(0, 1, 1, 1);
        ask(x, "abcdea");
        due("three young, one old", order(x, 0), "cdea");
        due("the young are above a quarter", x.victim(0, KEY_Z), 2);
        x.setShares(0, 4, 0, 0, 0);
        due("only the old one can go", x.victim(0, KEY_Z), 0);
        due("it goes, and is not remembered", afterAsking(x, "z") + remembered(x), "cdezb");
    }

    static void ofThoseYoungThatCanGo() {
        Cachebench x = by(4, 4);
        x.setKey(2, 1, 1, 1);
        x.setKey(3, 1, 1, 1);
        x.setShares(0, 2, 1, 0, 0);
        ask(x, "abcd");
        due("c came in ahead of d", x.victim(0, 24), 0);
        x.setShares(0, 4, 0, 0, 0);
        due("c goes ahead of a", x.victim(0, 24), 2);
    }

    /** The old one that was used longest ago. */
    static void theOldOneUsedLongestAgo() {
        Cachebench x = by(4, 4);
        ask(x, "abcdeabc");
        due("a", x.victim(0, KEY_Z), 0);
        due("behind a hit on a", afterAsking(x, "a"), "ebca");
        due("b", x.victim(0, KEY_Z), 1);
        due("b goes", afterAsking(x, "f"), "efca");
    }

    /** A hit leaves it what it is. */
    static void aHitLeavesItYoungOrOld() {
        Cachebench x = by(4, 4);
        due("young as they came in", afterAsking(x, "abcdda"), "abcd");
        due("a goes though it was used last", afterAsking(x, "e"), "bcde");
        due("and is remembered", remembered(x), "a");
        due("a comes in old", afterAsking(x, "a"), "cdea");
        due("and stays old", afterAsking(x, "aac"), "cdea");
    }

    /** A key that comes in is old, if it is remembered then, otherwise young: also one that is fetched. */
    static void aFetchedKeyThatIsRemembered() {
        Cachebench x = with(0, 4, 4, 0, 2);
        ask(x, "abcdef");
        due("both are remembered", remembered(x), "ab");
        due("both are old", afterAsking(x, "a"), "efab");
        due("remembered no more", remembered(x), "cd");
    }

    /** It is remembered no more then. */
    static void whatComesInIsRememberedNoMore() {
        Cachebench x = by(4, 4);
        ask(x, "abcde");
        due("a is", remembered(x), "a");
        ask(x, "a");
        due("a is no more", remembered(x), "b");
        x.drop(0, 0);
        due("nor when it is dropped", remembered(x), "b");
        due("it comes in young", afterAsking(x, "a"), "cdea");
        due("behind the others", x.victim(0, KEY_Z), 2);
        due("c, d and e go first", afterAsking(x, "fghi") + remembered(x), "fghi" + "acde");
    }

    /** A young key that is put out is remembered (others are not). */
    static void anOldKeyIsNotRemembered() {
        Cachebench x = by(4, 4);
        ask(x, "abcdeabc");
        due("d is", remembered(x), "d");
        ask(x, "f");
        due("a was old", order(x, 0) + remembered(x), "efbcd");
        due("it comes in young", afterAsking(x, "a"), "fabc");
    }

    /** If more keys are remembered then than the room has units. */
    static void asManyAsTheRoomHasUnits() {
        for (int room : new int[] {2, 4, 9, 13}) {
            Cachebench x = by(4, room);
            for (int key = 0; key < 2 * room; key++) x.request(key, false);
            due("just as many, room " + room, x.cacheAt(0, 7) + " " + x.remembers(0, 0), room + " true");
            if (2 * room > KEY_Z) continue;
            x.request(KEY_Z, false);
            due("one more, room " + room, x.cacheAt(0, 7) + " " + x.remembers(0, 0) + " " + x.remembers(0, 1), room + " false true");
        }
    }

    static void asManyAsUnitsNotAsKeysFit() {
        Cachebench x = by(4, 4);
        for (int key = 0; key < 8; key++) x.setKey(key, 2, 1, 0);
        ask(x, "abcdef");
        due("four of two units each", remembered(x), "abcd");
        ask(x, "g");
        due("the one put out longest ago goes", remembered(x), "bcde");
    }

    /** The one that was put out longest ago is remembered no more. */
    static void theOnePutOutLongestAgo() {
        Cachebench x = by(4, 2);
        ask(x, "bacd");
        due("b, then a", remembered(x), "ab");
        ask(x, "e");
        due("b is forgotten", remembered(x), "ac");
    }

    static void theOnePutOutLongestAgoNotTheOneThatCameIn() {
        Cachebench x = by(4, 2);
        x.setKey(1, 1, 1, 1);
        x.setShares(0, 2, 0, 0, 0);
        ask(x, "abc");
        due("b had to go", order(x, 0), "ac");
        x.setShares(0, 0, 0, 0, 0);
        ask(x, "d");
        due("then a", remembered(x), "ab");
        ask(x, "e");
        due("b is forgotten", remembered(x), "ac");
    }

    static void severalPutOutForOneKey() {
        Cachebench x = by(4, 4);
        x.setKey(KEY_Z, 4, 1, 0);
        ask(x, "bacdz");
        due("b, a, c, d in this order", remembered(x), "abcd");
        ask(x, "e");
        due("b is forgotten", remembered(x), "acdz");
    }

    /** Old, if it is remembered then, behind all that was put out for it. */
    static void rememberedBehindAllThatWasPutOutForIt() {
        Cachebench x = by(4, 1);
        ask(x, "ab");
        due("a", remembered(x), "a");
        ask(x, "a");
        due("b in place of a", remembered(x), "b");
        ask(x, "c");
        due("so a was young", remembered(x), "a");
        Cachebench y = by(4, 2);
        y.setKey(0, 2, 1, 0);
        ask(y, "abca");
        due("b and c in place of a", order(y, 0) + remembered(y), "abc");
        ask(y, "d");
        due("so a was young", order(y, 0) + remembered(y), "dac");
        Cachebench z = by(4, 2);
        ask(z, "abca");
        due("just as many", order(z, 0) + remembered(z), "cab");
    }

    // ---- 5 LEAST_COST

    /** A worth: the level of the cache when it was last used, plus 840 times its cost divided by its size. */
    static void theWorthOfEachSize() {
        long[] ofCost1 = {0, 840, 420, 280, 210, 168, 140, 120, 105};
        for (int size = 1; size <= 8; size++) {
            for (int cost : new int[] {0, 1, 7, 1000}) {
                Cachebench x = by(5, 8);
                x.setKey(3, size, cost, 0);
                x.request(3, false);
                due("size " + size + ", cost " + cost, x.worth(0, 3), cost * ofCost1[size]);
            }
        }
    }

    static void theLevelAtFirst() {
        Cachebench x = by(5, 4);
        due("the level at first", x.worth(0, -1), 0L);
        ask(x, "abcd");
        due("nothing was put out", x.worth(0, -1), 0L);
    }

    static void theLevelOfAGreatWorth() {
        Cachebench x = by(5, 1);
        for (int key = 0; key < 26; key++) x.setKey(key, 1, 1000, 0);
        for (int i = 0; i < 300; i++) x.request(i % 26, false);
        due("the level", x.worth(0, -1), 840000L * 299);
        due("the worth", x.worth(0, 299 % 26), 840000L * 300);
    }

    static void aHitIsWorthTheLevelOfNow() {
        Cachebench x = by(5, 2);
        x.setKey(0, 1, 10, 0);
        ask(x, "abc");
        due("as it was", x.worth(0, 0), 8400L);
        ask(x, "a");
        due("from the level of now", x.worth(0, 0), 9240L);
        due("the level", x.worth(0, -1), 840L);
    }

    static void aFetchedKeyIsUsedThen() {
        Cachebench x = with(0, 5, 2, 0, 2);
        ask(x, "abca");
        due("the level", x.worth(0, -1), 1680L);
        due("x came in ahead of what was put out for y", x.worth(0, 0), 1680L);
        due("y", x.worth(0, 1), 2520L);
    }

    /** The one with the least worth is put out, of like ones the lesser key. */
    static void ofLikeWorthTheLesserKey() {
        due("a though it came in last", afterAsking(by(5, 3), "zcad"), "czd");
        Cachebench x = by(5, 3);
        x.setKey(0, 1, 2, 0);
        due("the least worth ahead of the lesser key", afterAsking(x, "abcd"), "cad");
    }

    /** The level becomes that worth then, if it is less. */
    static void theLevelNeverGoesDown() {
        Cachebench x = by(5, 2);
        x.setKey(1, 1, 5, 1);
        x.setShares(0, 2, 0, 0, 0);
        ask(x, "abc");
        due("b had to go", order(x, 0) + x.worth(0, -1), "ac4200");
        x.setShares(0, 0, 0, 0, 0);
        ask(x, "d");
        due("a is worth less than the level", order(x, 0) + x.worth(0, -1), "cd4200");
        due("worth from the level", x.worth(0, 3), 5040L);
        ask(x, "e");
        due("c is worth more", x.worth(0, -1), 5040L);
    }

    static void withoutACostTheLevelStays() {
        Cachebench x = by(5, 1);
        x.setKey(0, 1, 0, 0);
        x.setKey(1, 1, 0, 0);
        ask(x, "ab");
        due("a was worth nothing", x.worth(0, -1) + x.worth(0, 1), 0L);
    }

    // ---- 6 ADAPTING

    /** If the first shadow has no more misses than the second one, by LAST_USE, otherwise by FEWEST. */
    static void noMoreMisses() {
        Cachebench x = with(0, 6, 2, 0, 0);
        due("no misses at all", x.leaning(0), 0);
        ask(x, "aaabbc");
        due("like misses", x.leaning(0), 0);
        due("by last use", x.victim(0, KEY_Z), 1);
        ask(x, "a");
        due("one more by last use", x.leaning(0), 1);
        due("by fewest", x.victim(0, KEY_Z), 2);
        ask(x, "dc");
        due("two more by both", x.leaning(0), 1);
        ask(x, "d");
        due("one more by fewest too: as many", x.leaning(0), 0);
    }

    static void fewerMissesByLastUse() {
        Cachebench x = by(6, 2);
        ask(x, "aaabcbc");
        due("fewer by last use", x.leaning(0), 0);
    }

    /** Fed with the same requests, each behind the cache itself. */
    static void eachBehindTheCacheItself() {
        Cachebench x = by(6, 2);
        ask(x, "aaabbc");
        due("leans to last use ahead of it", x.leaning(0), 0);
        due("so b goes", afterAsking(x, "a"), "ca");
        due("leans to fewest behind it", x.leaning(0), 1);
    }

    /** Of the same room: what is above it comes into no shadow. */
    static void shadowsOfTheSameRoom() {
        Cachebench x = new Cachebench();
        for (int cache = 0; cache < 6; cache++) x.setCache(cache, 6, 2, 0, 0);
        x.setKey(KEY_Z, 3, 1, 0);
        ask(x, "zzabc");
        due("no shadow holds what passes by", x.setKey(KEY_Z, 2, 1, 0), 3);
        due("one may hold it now", afterAsking(x, "z"), "z");
        refused("held", STATE, () -> x.setKey(KEY_Z, 1, 1, 0));
        Cachebench y = new Cachebench();
        for (int cache = 0; cache < 6; cache++) y.setCache(cache, 6, 1, 0, 0);
        ask(y, "ab");
        due("a is in neither", y.setKey(0, 2, 1, 0), 1);
        for (int cache = 0; cache < 6; cache++) y.drop(cache, 1);
        refused("b, of the size of the room, is", STATE, () -> y.setKey(1, 2, 1, 0));
    }

    private static Cachebench adaptingAlone(int lapse, int mode) {
        Cachebench x = new Cachebench();
        for (int cache = 1; cache < 6; cache++) x.setCache(cache, 0, 1, 1, 0);
        x.setCache(0, 6, 2, lapse, mode);
        return x;
    }

    /** Without lapse, mode and shares. */
    static void shadowsWithoutLapse() {
        Cachebench x = adaptingAlone(2, 0);
        ask(x, "aaabb");
        x.pass(1000);
        due("nothing is held", x.cacheAt(0, 4), 0);
        refused("but in a shadow", STATE, () -> x.setKey(0, 1, 1, 0));
        ask(x, "ca");
        due("a is a hit for the second shadow alone", x.leaning(0), 1);
    }

    static void shadowsWithoutMode() {
        Cachebench x = adaptingAlone(0, 2);
        ask(x, "abca");
        due("the cache fetches", order(x, 0), "ab");
        x.pass(1);
        x.drop(0, 0);
        x.drop(0, 1);
        due("the shadows don't: none has b", x.setKey(1, 1, 1, 0), 1);
        refused("both have a", STATE, () -> x.setKey(0, 1, 1, 0));
        refused("both have c", STATE, () -> x.setKey(2, 1, 1, 0));
    }

    static void shadowsWithoutShares() {
        Cachebench x = adaptingAlone(0, 0);
        x.setKey(1, 1, 1, 1);
        x.setShares(0, 2, 0, 0, 0);
        ask(x, "abc");
        due("the cache puts out b", order(x, 0), "ac");
        x.pass(1);
        x.drop(0, 0);
        due("its shadows a", x.setKey(0, 1, 1, 0), 1);
        refused("and hold b", STATE, () -> x.setKey(1, 1, 1, 1));
    }

    /** Of the same room: what passes by the cache passes by its shadows, and puts nothing out of them. */
    static void whatPassesByTheShadows() {
        Cachebench x = adaptingAlone(0, 0);
        x.setKey(KEY_Z, 3, 1, 0);
        ask(x, "abzz");
        x.pass(1);
        due("no shadow holds it", answerOf(() -> x.setKey(KEY_Z, 2, 1, 0)), 3);
        x.drop(0, 0);
        x.drop(0, 1);
        refused("both hold a", STATE, () -> x.setKey(0, 1, 1, 0));
        refused("both hold b", STATE, () -> x.setKey(1, 1, 1, 0));
    }

    static void shadowsKeepWhatIsDropped() {
        Cachebench x = adaptingAlone(0, 0);
        ask(x, "a");
        x.pass(1);
        x.drop(0, 0);
        refused("both hold a", STATE, () -> x.setKey(0, 1, 1, 0));
        x.setCache(0, 6, 2, 0, 0);
        due("emptied with it", x.setKey(0, 1, 1, 0), 1);
    }

    // ---- the order of a cache

    static void theOrderByEachRule() {
        String[] due = {"bdac", "bdac", "bacd", "bacd", "bacd", "abcd", "bdac"};
        for (int rule = 0; rule <= 6; rule++) {
            due("rule " + rule, afterAsking(by(rule, 4), "bacdbdac"), due[rule]);
            due("nothing held, rule " + rule, order(by(rule, 4), 0), "");
        }
    }

    static void theOrderOfAdaptingIsByUseThoughItLeansToFewest() {
        Cachebench x = by(6, 2);
        ask(x, "aaabbca");
        due("leans", x.leaning(0), 1);
        due("order", order(x, 0), "ca");
        due("order", afterAsking(x, "c"), "ac");
        due("but the one with the fewest requests goes", x.victim(0, KEY_Z), 2);
    }

    static void theOrderOfYoungAndOld() {
        Cachebench x = by(4, 4);
        ask(x, "abcdebaab");
        due("young as they came in, old as they were used", order(x, 0), "deab");
        due("a hit on a young one moves nothing", afterAsking(x, "d"), "deab");
        due("a hit on an old one does", afterAsking(x, "a"), "deba");
    }

    static void theOrderByWorth() {
        Cachebench x = by(5, 4);
        x.setKey(1, 1, 3, 0);
        x.setKey(2, 2, 2, 0);
        x.setKey(3, 1, 0, 0);
        due("by ascending worth", afterAsking(x, "bcd"), "dcb");
        due("of like ones by ascending keys", afterAsking(x, "a"), "acb");
    }

    public static void main(String[] args) {
        runAll(RuleEdgesTest.class);
    }
}
