/** The promises 2 to 12 and 24 to 36: what each call says of its edges, by a test for each sentence. */
public final class CallEdgesTest extends Checks {

    private static final int KEY_Z = 25;

    private static Cachebench by(int rule, int room) {
        return with(0, rule, room, 0, 0);
    }

    /** A bench of which the caches but one are empty and fit for nothing but keys of the size 1. */
    private static Cachebench onlyIn(int cache, String text) {
        Cachebench x = new Cachebench();
        x.setCache(5, 0, 4, 0, 0);
        ask(x, text);
        for (int other = 0; other < 6; other++) {
            if (other != cache) x.setCache(other, 0, 4, 0, 0);
        }
        return x;
    }

    // ---- 2 setKey

    /** If a cache holds the key: each cache by itself. */
    static void setKeyOfAKeyThatOneCacheHolds() {
        for (int cache = 0; cache < 6; cache++) {
            Cachebench x = onlyIn(cache, "ab");
            refused("held by the cache " + cache, STATE, () -> x.setKey(1, 2, 2, 2));
            due("nothing changes", "" + x.keyAt(1, 0) + x.keyAt(1, 1) + x.keyAt(1, 2), "110");
            due("another key", x.setKey(2, 2, 2, 2), 1);
            x.drop(cache, 1);
            due("held no more", x.setKey(1, 2, 2, 2), 1);
        }
    }

    /** Or a shadow of one: each shadow by itself. */
    static void setKeyOfAKeyThatAShadowHolds() {
        for (int cache = 0; cache < 6; cache++) {
            Cachebench x = new Cachebench();
            for (int each = 0; each < 6; each++) x.setCache(each, each == cache ? 6 : 0, each == cache ? 2 : 1, 0, 0);
            ask(x, "aaabbc");
            for (int each = 0; each < 6; each++) {
                if (each != cache) x.setCache(each, 0, 1, 0, 0);
            }
            x.drop(cache, 1);
            x.drop(cache, 2);
            refused("a is held by the one by fewest, cache " + cache, STATE, () -> x.setKey(0, 1, 1, 1));
            refused("b is held by the one by last use, cache " + cache, STATE, () -> x.setKey(1, 1, 1, 1));
            refused("c is held by both, cache " + cache, STATE, () -> x.setKey(2, 1, 1, 1));
            due("d by none", x.setKey(3, 1, 1, 1), 1);
        }
    }

    static void setKeyOfARememberedKey() {
        Cachebench x = new Cachebench();
        for (int cache = 0; cache < 6; cache++) x.setCache(cache, 4, 1, 0, 0);
        ask(x, "ab");
        due("to be remembered is not to be held", x.remembers(0, 0) + " " + x.setKey(0, 1, 5, 3), "true 1");
    }

    static void setKeyLeavesTheRowAndTheTime() {
        Cachebench x = new Cachebench();
        x.pass(4);
        ask(x, "abcdez!");
        x.setKey(9, 8, 1000, 3);
        due("the row", rowOf(x) + x.now(), "abcdez!4");
    }

    // ---- 3 pass

    static void passCountsInAllCaches() {
        Cachebench x = new Cachebench();
        for (int cache = 0; cache < 6; cache++) x.setCache(cache, cache, 4, cache, 0);
        ask(x, "ab");
        int[] due = {2, 2, 2, 2, 2, 0};
        for (int minute = 1; minute <= 6; minute++) {
            due("the minute " + minute, x.pass(1), due[minute - 1]);
        }
        due("without a lapse", x.cacheAt(0, 4), 2);
    }

    static void passWithNothingThere() {
        Cachebench x = with(0, 0, 4, 1, 0);
        due("nothing held", x.pass(1000), 0);
        due("a change", x.undo(), 1);
        due("the time", x.now(), 0);
    }

    // ---- 4 request

    /** Returns the caches for which it was a hit, as bits. */
    static void requestTellsEachCache() {
        for (int cache = 0; cache < 6; cache++) {
            Cachebench x = new Cachebench();
            x.request(KEY_Z, false);
            due("all", x.request(KEY_Z, true), 63);
            x.drop(cache, KEY_Z);
            due("all but " + cache, x.request(KEY_Z, false), 63 - (1 << cache));
            due("none", x.request(cache, false), 0);
        }
    }

    // ---- 5 draw

    private static int drawn(long seed, int times) {
        long x = seed;
        for (int i = 0; i < times; i++) x = x * 1103515245L + 12345L & 0xffffffffL;
        return (int) (x >> 16);
    }

    /** X becomes x * 1103515245 + 12345 (an int that goes round); the draw is (x >>> 16) % n. */
    static void drawsThatGoRound() {
        for (int seed : new int[] {0, 1, -1, 12345, LEAST, MOST, 1 << 16, -65536, 987654321}) {
            for (int[] told : new int[][] {{50, 26, 50}, {1, 26, 100}, {7, 25, 1}, {9, 2, 99}, {50, 1, 0}}) {
                Cachebench x = new Cachebench();
                int hits = x.draw(seed, told[0], told[1], told[2]);
                StringBuilder due = new StringBuilder();
                for (int i = 0; i < told[0]; i++) {
                    due.append((char) ('a' + drawn(seed, 2 * i + 1) % told[1]));
                    due.append(drawn(seed, 2 * i + 2) % 100 < told[2] ? "!" : "");
                }
                due("draws by " + seed + " of " + told[1], rowOf(x), due.toString());
                int dueHits = 0;
                for (int cache = 0; cache < 6; cache++) dueHits += x.count(cache, 0);
                due("hits", hits, dueHits);
            }
        }
    }

    static void drawsOfOneKeyAndOfAllOrNoWrites() {
        Cachebench x = new Cachebench();
        due("one", x.draw(4, 1, 1, 0), 0);
        due("a key", rowOf(x), "a");
        x.clearRow();
        x.draw(4, 50, 1, 100);
        due("all to write", rowOf(x), "a!".repeat(50));
        x.clearRow();
        x.draw(4, 50, 1, 0);
        due("none to write", rowOf(x), "a".repeat(50));
        due("one change", x.undo(), 4);
    }

    // ---- 6 run

    static void runOfAnEmptyText() {
        Cachebench x = new Cachebench();
        due("none", x.run(), 0);
        due("none", ask(x, "   "), 0);
        due("none", ask(x, "50()2(3())"), 0);
        due("the row", x.rowLength(), 0);
        due("changes all the same", x.undo(), 2);
    }

    static void runTwice() {
        Cachebench x = new Cachebench();
        due("two", ask(x, "ab!"), 2);
        due("the text stays", x.run(), 2);
        due("the row", rowOf(x), "ab!ab!");
        due("the text", x.clearText(), 3);
    }

    // ---- 7 clearRow

    static void clearRowOfAnEmptyRow() {
        Cachebench x = new Cachebench();
        due("none", x.clearRow(), 0);
        due("a change all the same", x.undo(), 0);
    }

    static void clearRowOfAFullRow() {
        Cachebench x = longRow(300);
        due("300", x.clearRow(), 300);
        due("the row", x.rowLength() + x.keyAt(0, 3), 0);
        for (int cache = 0; cache < 6; cache++) {
            due("emptied", x.cacheAt(cache, 4) + x.count(cache, 0) + x.count(cache, 1), 0);
        }
    }

    // ---- 8 setCache

    /** Sets up a cache anew, without shares, and empties it; returns how many keys it held. */
    static void setCacheOfAnEmptyAndAFullOne() {
        Cachebench x = new Cachebench();
        due("it held none", x.setCache(3, 3, 20, 1000, 3), 0);
        ask(x, "abcdefghijklmnopqrstuvwxyz");
        x.setShares(3, 5, 5, 5, 5);
        due("it held 20", x.setCache(3, 3, 20, 1000, 3), 20);
        due("nothing is held", x.cacheAt(3, 4) + x.cacheAt(3, 5), 0);
        due("without shares", "" + x.ownerAt(3, 0, true) + x.ownerAt(3, 1, true) + x.ownerAt(3, 2, true) + x.ownerAt(3, 3, true), "0000");
        due("the others hold theirs", x.cacheAt(2, 4) + x.cacheAt(4, 4), 8);
        due("the row stays", x.rowLength(), 26);
    }

    static void setCacheAtBothEnds() {
        Cachebench x = new Cachebench();
        for (int[] told : new int[][] {{0, 0, 1, 0, 0}, {5, 6, 20, 1000, 3}, {0, 6, 20, 1000, 3}, {5, 0, 1, 0, 0}}) {
            x.setCache(told[0], told[1], told[2], told[3], told[4]);
            for (int what = 0; what < 4; what++) due("what " + what, x.cacheAt(told[0], what), told[what + 1]);
        }
    }

    // ---- 9 setShares

    /** At least 0; all four together at most the room. */
    static void sharesUpToTheRoom() {
        for (int room : new int[] {1, 4, 20}) {
            Cachebench x = by(0, room);
            for (int owner = 0; owner < 4; owner++) {
                int[] shares = new int[4];
                shares[owner] = room;
                due("the whole room", x.setShares(0, shares[0], shares[1], shares[2], shares[3]), 0);
                due("told", x.ownerAt(0, owner, true) + x.ownerAt(0, (owner + 1) % 4, true), room);
                shares[(owner + 1) % 4] = 1;
                refused("one unit more", NUMBER, () -> x.setShares(0, shares[0], shares[1], shares[2], shares[3]));
                due("refused, nothing changes", x.ownerAt(0, owner, true), room);
            }
        }
    }

    /** Returns how many owners have more than their share then; 0 without shares. */
    static void ownersWhoHaveMore() {
        Cachebench x = by(0, 20);
        for (int key = 0; key < 4; key++) x.setKey(key, key + 1, 1, key);
        ask(x, "abcd");
        due("nobody", x.setShares(0, 1, 2, 3, 4), 0);
        due("the first", x.setShares(0, 0, 2, 3, 4), 1);
        due("the last", x.setShares(0, 1, 2, 3, 3), 1);
        due("all", x.setShares(0, 0, 1, 2, 3), 4);
        due("without shares", x.setShares(0, 0, 0, 0, 0), 0);
        due("all but one", x.setShares(0, 1, 0, 0, 0), 3);
        due("nothing leaves it", order(x, 0), "abcd");
        Cachebench y = by(0, 4);
        due("nothing held", y.setShares(0, 1, 1, 1, 1), 0);
    }

    // ---- 10 flush, 11 drop

    /** They are held on, and not dirty then. */
    static void flushOfNoneAndOfAll() {
        Cachebench x = with(0, 0, 20, 0, 1);
        due("nothing held", x.flush(0), 0);
        ask(x, "ab");
        due("none dirty", x.flush(0) + x.count(0, 4), 0);
        ask(x, "a!b!c!d!e!f!g!h!i!j!k!l!m!n!o!p!q!r!s!t!");
        due("all dirty", x.flush(0), 20);
        due("each is a writing", x.count(0, 4), 20);
        due("held on", x.cacheAt(0, 4) + " " + x.cacheAt(0, 6), "20 0");
        due("none any more", x.flush(0) + x.count(0, 4), 20);
        x.drop(0, 0);
        due("no second writing", x.count(0, 4), 20);
        due("all changes", x.undo(), 5);
    }

    static void dropOfTheOnlyKey() {
        Cachebench x = by(0, 4);
        refused("nothing held", ABSENT, () -> x.drop(0, 0));
        due("not a change", answerOf(() -> x.undo()), 0);
        x.setCache(0, 0, 4, 0, 0);
        x.request(0, false);
        due("clean", x.drop(0, 0), false);
        due("nothing held", order(x, 0), "");
        refused("not twice", ABSENT, () -> x.drop(0, 0));
        due("the others hold it", x.holds(1, 0), true);
    }

    // ---- 12 replay

    static void replayOfAnEmptyRow() {
        Cachebench x = new Cachebench();
        due("no hits", x.replay(), 0);
        due("a change all the same", x.undo(), 0);
    }

    /** Each request at the minute at which it was made; what lapses in between leaves ahead of it. */
    static void replayLapsesInBetween() {
        for (int lapse = 4; lapse <= 6; lapse++) {
            Cachebench x = new Cachebench();
            x.request(0, false);
            x.pass(5);
            x.request(0, false);
            for (int cache = 0; cache < 6; cache++) x.setCache(cache, cache, 4, lapse, 0);
            due("hits by the lapse " + lapse, x.replay(), lapse > 5 ? 6 : 0);
            due("lapsed", x.count(0, 3), lapse > 5 ? 0 : 1);
        }
    }

    /** And up to the time, leaves. */
    static void replayLapsesUpToTheTime() {
        for (int lapse = 4; lapse <= 6; lapse++) {
            Cachebench x = new Cachebench();
            x.request(0, false);
            x.pass(5);
            x.setCache(0, 0, 4, lapse, 0);
            x.replay();
            due("by the lapse " + lapse, order(x, 0) + x.count(0, 3), lapse > 5 ? "a0" : "1");
        }
    }

    static void replaySetsTheMinutesOfThen() {
        Cachebench x = with(0, 0, 4, 10, 0);
        x.request(0, false);
        x.pass(4);
        x.request(1, false);
        x.request(0, true);
        x.pass(3);
        x.replay();
        due("at 13", x.pass(6), 0);
        due("at 14", x.pass(1), 2);
    }

    /** Keys, rooms, lapses, modes and shares are those of now; what was dropped or flushed is not. */
    static void replayByWhatIsSetNow() {
        Cachebench x = new Cachebench();
        ask(x, "a!bab");
        x.drop(0, 0);
        x.flush(0);
        for (int cache = 0; cache < 6; cache++) x.setCache(cache, 0, 1, 0, 1);
        due("no hits by a room of 1", x.replay(), 0);
        due("writings", x.count(0, 4), 1);
        for (int cache = 0; cache < 6; cache++) x.setCache(cache, 0, 4, 0, 1);
        x.setKey(1, 5, 3, 0);
        due("b passes by", x.replay(), 6);
        due("costs of now", x.count(3, 8) + " " + x.count(3, 5), "7 2");
        due("a is dirty", x.cacheAt(3, 6), 1);
        due("the row stays", rowOf(x), "a!bab");
    }

    static void replayBySharesOfNow() {
        Cachebench x = by(0, 2);
        x.setKey(1, 1, 1, 1);
        ask(x, "abc");
        due("a went", order(x, 0), "bc");
        x.setShares(0, 2, 0, 0, 0);
        x.replay();
        due("b went", order(x, 0), "ac");
        due("and they stay", x.ownerAt(0, 0, true), 2);
    }

    /** Also a cache that was set up in the middle is fed with the whole row. */
    static void replayOfACacheThatWasSetUpLate() {
        Cachebench x = new Cachebench();
        ask(x, "abab");
        x.setCache(0, 0, 4, 0, 0);
        due("not fed", x.outcome(0, 3), -1);
        due("2 hits in each", x.replay(), 12);
        due("fed", "" + x.outcome(0, 0) + x.outcome(0, 1) + x.outcome(0, 2) + x.outcome(0, 3), "1100");
    }

    static void replayOfAFullRow() {
        Cachebench x = longRow(300);
        due("299 hits in each", x.replay(), 6 * 299);
        due("the row", x.rowLength(), 300);
    }

    // ---- 20

    /** How many requests of the row ask for it. */
    static void howManyRequestsAskForAKey() {
        Cachebench x = new Cachebench();
        ask(x, "zba!zbz");
        due("the first and the last request", x.keyAt(KEY_Z, 3), 3);
        due("b", x.keyAt(1, 3), 2);
        due("to write is to ask", x.keyAt(0, 3), 1);
        due("none", x.keyAt(2, 3), 0);
        x.setCache(0, 0, 4, 0, 0);
        due("of the row, whatever the caches do", x.keyAt(KEY_Z, 3), 3);
        due("a full row", longRow(300).keyAt(0, 3), 300);
        x.undo();
        x.undo();
        due("undone", x.keyAt(KEY_Z, 3), 0);
    }

    // ---- 24 to 28

    static void whatIsNotHeld() {
        Cachebench x = with(0, 0, 1, 0, 1);
        due("nothing held", x.holds(0, 0) + " " + x.isDirty(0, 0), "false false");
        ask(x, "a!");
        due("held", x.holds(0, 0) + " " + x.isDirty(0, 0), "true true");
        ask(x, "b");
        due("not held any more", x.holds(0, 0) + " " + x.isDirty(0, 0), "false false");
        due("the last key", x.holds(0, KEY_Z) + " " + x.isDirty(0, KEY_Z), "false false");
        ask(x, "z!");
        due("the last key, held", x.holds(0, KEY_Z) + " " + x.isDirty(0, KEY_Z), "true true");
    }

    /** How many keys it remembers (0 but by the rule 4). */
    static void rememberedByOneRuleAlone() {
        for (int rule = 0; rule <= 6; rule++) {
            Cachebench x = by(rule, 2);
            ask(x, "abcdef");
            due("rule " + rule, x.cacheAt(0, 7), rule == 4 ? 2 : 0);
        }
    }

    static void whatOwnersHave() {
        Cachebench x = by(0, 20);
        x.setKey(0, 8, 1, 3);
        x.setKey(1, 3, 1, 3);
        ask(x, "abc");
        due("sizes", "" + x.ownerAt(0, 0, false) + x.ownerAt(0, 1, false) + x.ownerAt(0, 2, false) + x.ownerAt(0, 3, false), "10011");
        due("0 without shares", x.ownerAt(0, 0, true) + x.ownerAt(0, 3, true), 0);
        due("together", x.cacheAt(0, 5), 12);
    }

    /** If there is no such place. */
    static void placesInOrder() {
        Cachebench x = by(0, 20);
        refused("nothing held", ABSENT, () -> x.keyInOrder(0, 0));
        refused("below", ABSENT, () -> x.keyInOrder(0, -1));
        ask(x, "abcdefghijklmnopqrst");
        due("the first", x.keyInOrder(0, 0), 0);
        due("the last", x.keyInOrder(0, 19), 19);
        refused("behind", ABSENT, () -> x.keyInOrder(0, 20));
        refused("far", ABSENT, () -> x.keyInOrder(0, MOST));
    }

    // ---- 29 victim

    /** The key that would be put out first by step 1 of section 3; NONE if none would. */
    static void victimAroundTheRoom() {
        for (int rule = 0; rule <= 6; rule++) {
            Cachebench x = by(rule, 8);
            for (int size = 1; size <= 8; size++) x.setKey(10 + size, size, 1, 0);
            due("an empty cache", x.victim(0, 18), -1);
            ask(x, "abc");
            due("just room", x.victim(0, 15), -1);
            due("a unit too few", x.victim(0, 16), 0);
            due("all must go, the first is told", x.victim(0, 18), 0);
            due("held", x.victim(0, 2), -1);
            ask(x, "defgh");
            due("full", x.victim(0, 11), 0);
            due("full, held", x.victim(0, 7), -1);
            due("nothing changes", order(x, 0) + x.count(0, 2) + x.count(0, 1), "abcdefgh08");
        }
    }

    static void victimOfAKeyAboveTheRoom() {
        Cachebench x = by(0, 2);
        x.setKey(24, 2, 1, 0);
        x.setKey(KEY_Z, 3, 1, 0);
        due("an empty cache", x.victim(0, KEY_Z), -1);
        ask(x, "ab");
        due("it passes by", x.victim(0, KEY_Z), -1);
        due("just the room", x.victim(0, 24), 0);
    }

    /** By step 1 alone: what would be put out for a key that is fetched is not told. */
    static void victimIsNotOneForAFetchedKey() {
        Cachebench x = with(0, 0, 2, 0, 2);
        ask(x, "abc");
        x.drop(0, 1);
        ask(x, "d");
        x.drop(0, 2);
        due("there is room for a, not for b too", x.victim(0, 0), -1);
    }

    static void victimOfASecondChanceIsRight() {
        Cachebench x = by(3, 3);
        ask(x, "abcab");
        due("c", x.victim(0, KEY_Z), 2);
        ask(x, "c");
        due("all marked", x.victim(0, KEY_Z), 0);
        due("asked again", x.victim(0, KEY_Z), 0);
        ask(x, "z");
        due("so it was", x.holds(0, 0) + order(x, 0), "falsebcz");
    }

    // ---- 30 to 33

    static void countsAtFirst() {
        Cachebench x = new Cachebench();
        for (int what = 0; what < 9; what++) due("count " + what, x.count(0, what), 0);
        due("of a key", x.countOf(0, KEY_Z, true) + x.countOf(5, 0, false), 0);
        due("share", x.hitShare(0), 0.0);
    }

    static void countsOfAKeyThatPassesBy() {
        Cachebench x = by(0, 2);
        x.setKey(KEY_Z, 3, 1, 0);
        ask(x, "zz");
        due("misses", x.countOf(0, KEY_Z, false) + " " + x.countOf(0, KEY_Z, true), "2 0");
        due("nothing was put out", x.count(0, 2), 0);
    }

    static void countsOfAFullRow() {
        Cachebench x = longRow(300);
        due("hits", x.count(0, 0) + x.countOf(0, 0, true), 598);
        due("misses", x.count(0, 1) + x.countOf(0, 0, false), 2);
        due("between", x.hitsBetween(0, 0, 299), 299);
        due("the last", x.outcome(0, 299), 0);
        due("share", x.hitShare(0), 299.0 / 300.0);
    }

    /** 0 a hit, 1 a miss by which the key came in, 2 a miss that passed by; NONE if the cache was not fed with it. */
    static void eachOutcome() {
        Cachebench x = by(0, 2);
        x.setKey(KEY_Z, 3, 1, 0);
        ask(x, "aza");
        due("outcomes", "" + x.outcome(0, 0) + x.outcome(0, 1) + x.outcome(0, 2), "120");
        refused("not there yet", INDEX, () -> x.outcome(0, 3));
        x.setCache(0, 0, 2, 0, 0);
        due("not fed with it since it was emptied", x.outcome(0, 2), -1);
        ask(x, "a");
        due("the last ahead, the first behind", x.outcome(0, 2) + " " + x.outcome(0, 3), "-1 1");
    }

    /** From the first request of the piece to the last one, both with it. */
    static void hitsOfAPiece() {
        Cachebench x = by(0, 4);
        ask(x, "abababc");
        due("all", x.hitsBetween(0, 0, 6), 4);
        due("from a hit to a hit", x.hitsBetween(0, 2, 5), 4);
        due("without the first", x.hitsBetween(0, 3, 5), 3);
        due("without the last", x.hitsBetween(0, 2, 4), 3);
        due("one hit", x.hitsBetween(0, 2, 2), 1);
        due("one miss", x.hitsBetween(0, 1, 1), 0);
        due("misses", x.hitsBetween(0, 0, 1), 0);
        refused("to is less by one", NUMBER, () -> x.hitsBetween(0, 2, 1));
        x.setCache(0, 0, 4, 0, 0);
        ask(x, "aa");
        due("only since it was emptied", x.hitsBetween(0, 0, 8), 1);
        due("ahead of that", x.hitsBetween(0, 0, 6), 0);
    }

    /** What each call tells of the last request that a row can have. */
    static void theLastRequestOfAFullRow() {
        Cachebench x = longRow(299);
        x.setKey(KEY_Z, 8, 1, 0);
        x.setCache(1, 0, 8, 0, 0);
        x.pass(7);
        x.request(KEY_Z, true);
        due("its key", x.requestAt(299, 0), KEY_Z);
        due("to write", x.requestAt(299, 1), 1);
        due("its minute", x.requestAt(299, 2), 7);
        due("it passed by", x.outcome(0, 299), 2);
        due("it came in", x.outcome(1, 299), 1);
        due("no hit", x.hitsBetween(0, 299, 299), 0);
        x.undo();
        x.request(0, false);
        due("a hit", x.hitsBetween(0, 299, 299) + " " + x.outcome(0, 299), "1 0");
        due("in the other one it came in", x.outcome(1, 299), 1);
    }

    static void hitsAndMissesOfTheLastKey() {
        Cachebench x = by(0, 4);
        ask(x, "zzzaz");
        due("hits of z", x.countOf(0, KEY_Z, true), 3);
        due("misses of z", x.countOf(0, KEY_Z, false), 1);
        due("hits of y", x.countOf(0, KEY_Z - 1, true), 0);
    }

    // ---- 34 to 36

    static void worthsAtBothEnds() {
        Cachebench x = by(5, 20);
        ask(x, "az");
        due("the first and the last key", x.worth(0, 0) + x.worth(0, KEY_Z), 1680L);
        due("the level", x.worth(0, Cachebench.NONE), 0L);
        refused("not held", ABSENT, () -> x.worth(0, 1));
        refused("below the level", INDEX, () -> x.worth(0, -2));
        refused("behind the last", INDEX, () -> x.worth(0, 26));
    }

    static void nothingIsRemembered() {
        Cachebench x = by(4, 4);
        due("at first", keysWhere(x, key -> x.remembers(0, key)), "");
        ask(x, "abcd");
        due("nothing was put out", keysWhere(x, key -> x.remembers(0, key)), "");
        ask(x, "z");
        due("a", keysWhere(x, key -> x.remembers(0, key)), "a");
    }

    static void leaningAtFirst() {
        due("like misses, none", by(6, 1).leaning(0), Cachebench.LAST_USE);
    }

    public static void main(String[] args) {
        runAll(CallEdgesTest.class);
    }
}
