/** Section 5 of the document and the promises 37 to 48: the edges of what is told of the row, by a test for each sentence. */
public final class RowEdgesTest extends Checks {

    private static final String ALL_KEYS = "abcdefghijklmnopqrstuvwxyz";
    private static final int BEST = Cachebench.NONE;

    private static Cachebench row(String text) {
        Cachebench x = new Cachebench();
        ask(x, text);
        return x;
    }

    private static String after(Cachebench x, int rule, int size, int requests) {
        return keysWhere(x, key -> x.holdsAfter(rule, size, requests, key));
    }

    /** The keys that the best puts out, request by request; a point where it puts out none. */
    private static String victims(Cachebench x, int size) {
        StringBuilder keys = new StringBuilder();
        for (int request = 0; request < x.rowLength(); request++) {
            int key = x.bestVictim(size, request);
            keys.append(key == -1 ? "." : String.valueOf((char) ('a' + key)));
        }
        return keys.toString();
    }

    private static String phasesOf(Cachebench x, int size) {
        StringBuilder all = new StringBuilder();
        for (int request = 0; request < x.rowLength(); request++) all.append(x.phaseOf(size, request));
        return all.toString();
    }

    // ---- an empty row

    static void anEmptyRow() {
        Cachebench x = new Cachebench();
        for (int rule = -1; rule <= 2; rule++) {
            due("hits", x.hits(rule, 1) + x.hits(rule, 26), 0);
            due("held behind no request", after(x, rule, 26, 0), "");
        }
        due("phases", x.phases(1) + x.phases(26), 0);
        due("mean distance", x.meanDistance(), 0.0f);
        due("errors", x.errors(), 0);
        refused("no distance", INDEX, () -> x.distance(0));
        refused("no victim", INDEX, () -> x.bestVictim(1, 0));
        refused("no phase", INDEX, () -> x.phaseOf(1, 0));
        refused("not one request", NUMBER, () -> x.holdsAfter(0, 1, 1, 0));
    }

    static void theSlackOfAnEmptyRow() {
        Cachebench x = new Cachebench();
        due("k and h 1", x.slack(1, 1), 1);
        due("k 26, h 1", x.slack(26, 1), 26);
        due("k and h 26", x.slack(26, 26), 26);
        due("k 5, h 2", x.slack(5, 2), 8);
    }

    static void aRowThatWasCleared() {
        Cachebench x = row("ababab");
        x.clearRow();
        due("hits", x.hits(0, 2) + x.hits(BEST, 2), 0);
        due("phases", x.phases(1), 0);
        due("mean distance", x.meanDistance(), 0.0f);
        x.undo();
        due("hits", x.hits(0, 2) + x.hits(BEST, 2), 8);
    }

    // ---- the row as it is, whatever the caches do

    /** A cache of a size holds as many keys, each counts one, nothing lapses, nothing is fetched. */
    static void whateverTheCachesDo() {
        Cachebench x = new Cachebench();
        for (int cache = 0; cache < 6; cache++) x.setCache(cache, cache, 1, 1, 3);
        x.setKey(0, 8, 1000, 3);
        ask(x, "abca");
        x.pass(1000);
        ask(x, "a!");
        for (int rule = -1; rule <= 2; rule++) {
            due("hits, rule " + rule, x.hits(rule, 3), 2);
            due("held, rule " + rule, after(x, rule, 3, 5), "abc");
        }
        x.setCache(0, 0, 1, 0, 0);
        due("hits", x.hits(0, 3), 2);
    }

    static void theLeastSize() {
        Cachebench x = row("aabccca");
        for (int rule = -1; rule <= 2; rule++) {
            due("hits, rule " + rule, x.hits(rule, 1), 3);
            due("held, rule " + rule, after(x, rule, 1, 4), "c");
        }
        due("victims", victims(x, 1), "..ab..c");
    }

    static void theGreatestSize() {
        Cachebench x = row("2(" + ALL_KEYS + ")");
        for (int rule = -1; rule <= 2; rule++) {
            due("hits by 26, rule " + rule, x.hits(rule, 26), 26);
            due("all are held", after(x, rule, 26, 52), ALL_KEYS);
            due("hits by 25, rule " + rule, x.hits(rule, 25), rule == BEST ? 25 : 0);
        }
        due("victims", victims(x, 26), ".".repeat(52));
    }

    static void aFullRow() {
        Cachebench x = row("50(abcdef)");
        for (int rule = -1; rule <= 2; rule++) {
            due("hits by 6, rule " + rule, x.hits(rule, 6), 294);
            due("held at the end", after(x, rule, 6, 300), "abcdef");
        }
        due("hits by 5, last use", x.hits(0, 5), 0);
        due("phases", x.phases(6) + " " + x.phases(5) + " " + x.phases(1), "1 60 300");
        due("the last phase", x.phaseOf(5, 299) + " " + x.phaseOf(1, 299), "59 299");
        due("the last distance", x.distance(299), 6);
        due("mean distance", x.meanDistance(), 6.0f);
        due("errors", x.errors(), 0);
    }

    /** It is empty ahead of the row, takes in the asked key at each miss, and puts out one key, if it is full. */
    static void heldBehindEachRequest() {
        Cachebench x = row("abcab");
        for (int rule = -1; rule <= 2; rule++) {
            due("behind none", after(x, rule, 2, 0), "");
            due("behind one", after(x, rule, 2, 1), "a");
            due("just full", after(x, rule, 2, 2), "ab");
        }
        due("one went, last use", after(x, 0, 2, 3), "bc");
        due("one went, fewest", after(x, 1, 2, 3), "bc");
        due("one went, first in", after(x, 2, 2, 3), "bc");
        due("one went, best", after(x, BEST, 2, 3), "ac");
    }

    static void theEndsOfHoldsAfter() {
        Cachebench x = row("abc");
        due("all requests", x.holdsAfter(0, 26, 3, 2), true);
        due("one less", x.holdsAfter(0, 26, 2, 2), false);
        refused("one more", NUMBER, () -> x.holdsAfter(0, 26, 4, 2));
        refused("below none", NUMBER, () -> x.holdsAfter(0, 26, -1, 2));
        due("the last key", x.holdsAfter(0, 26, 3, 25), false);
        refused("behind the last key", INDEX, () -> x.holdsAfter(0, 26, 3, 26));
    }

    // ---- by last use, by fewest, by first in

    static void byLastUse() {
        Cachebench x = row("abac");
        due("b was used longest ago", after(x, 0, 2, 4), "ac");
        due("hits", x.hits(0, 2), 1);
    }

    /** By fewest (as told in section 4): all requests count; of like ones the one asked longest ago. */
    static void byFewest() {
        due("of like ones, by the latest request", after(row("abbac"), 1, 2, 5), "ac");
        due("the fewest", after(row("aabc"), 1, 2, 4), "ac");
        Cachebench x = row("aabcbd");
        due("b asked twice, a too, a longer ago", after(x, 1, 2, 5), "ab");
        due("a goes", after(x, 1, 2, 6), "bd");
    }

    static void byFirstIn() {
        due("a hit saves nothing", after(row("abaac"), 2, 2, 5), "bc");
        due("it came in anew", after(row("abcad"), 2, 2, 5), "ad");
    }

    // ---- by the best

    /** It puts out the key that is asked again latest. */
    static void theBestKnowsTheFuture() {
        Cachebench x = row("abcdcba");
        due("a is asked again latest", victims(x, 3), "...a..d");
        due("held behind four requests", after(x, BEST, 3, 4), "bcd");
        due("hits", x.hits(BEST, 3), 2);
    }

    /** Keys that are not asked any more go ahead of these, of several of them the greatest key. */
    static void keysThatAreNotAskedAnyMore() {
        due("a and b are not asked any more: b", victims(row("abc"), 2), "..b");
        due("a is not asked any more", victims(row("abcb"), 2), "..a.");
        due("z ahead of a, b", victims(row("azbcab"), 3), "...z..");
        due("the greatest of three", victims(row("bxacd"), 3), "...xc");
        due("one asked at the very end is asked", victims(row("abca"), 2), "..b.");
    }

    /** Behind the request itself, not at it. */
    static void askedAgainBehindTheRequest() {
        due("the key that comes in does not count", victims(row("abcac"), 2), "..b..");
        due("size 1", victims(row("aba"), 1), ".ab");
    }

    /** NONE if none: at a hit, and while there is room. */
    static void theBestPutsOutNone() {
        Cachebench x = row("abab");
        due("room, then hits", victims(x, 2), "....");
        due("a miss in a full one", x.bestVictim(1, 1), 0);
        due("there is room at the first", x.bestVictim(1, 0), -1);
    }

    /** All is told of the whole row, also by holdsAfter() of its first requests. */
    static void theBestLooksBehindTheFirstRequests() {
        due("a is asked again", after(row("abca"), BEST, 2, 3), "ac");
        due("b is asked again", after(row("abcb"), BEST, 2, 3), "bc");
        due("none is", after(row("abc"), BEST, 2, 3), "ac");
    }

    /** All this is about the row as it is: what was undone or cleared is no part of it. */
    static void theRowAsItIs() {
        Cachebench x = row("abc");
        x.request(1, false);
        due("b is asked again", victims(x, 2), "..a.");
        x.undo();
        due("neither is", victims(x, 2), "..b");
        Cachebench y = row("abcbbbbbbb");
        y.clearRow();
        ask(y, "abc");
        due("neither is", victims(y, 2), "..b");
        due("hits", y.hits(BEST, 2), 0);
        due("distance", y.distance(2), -1);
        due("phases", y.phases(2), 2);
        due("mean distance", y.meanDistance(), 0.0f);
    }

    /** No answer depends on what was asked ahead of it. */
    static void askedInAnyOrder() {
        Cachebench asked = new Cachebench();
        asked.draw(99, 50, 9, 0);
        for (int first = -1; first <= 2; first++) {
            for (int rule = -1; rule <= 2; rule++) {
                for (int size = 1; size <= 9; size++) {
                    Cachebench fresh = new Cachebench();
                    fresh.draw(99, 50, 9, 0);
                    asked.hits(first, size);
                    due("hits, rule " + rule + " behind " + first, asked.hits(rule, size), fresh.hits(rule, size));
                }
                asked.hits(first, 4);
                Asked fresh = new Asked(rule);
                String due = keysWhere(asked, key -> fresh.holds(key));
                due("held, rule " + rule + " behind " + first, after(asked, rule, 4, 40), due);
            }
        }
    }

    /** A bench of which nothing but one rule is asked. */
    private static final class Asked {
        private final Cachebench fresh = new Cachebench();
        private final int rule;

        Asked(int rule) {
            this.rule = rule;
            fresh.draw(99, 50, 9, 0);
        }

        boolean holds(int key) {
            return fresh.holdsAfter(rule, 4, 40, key);
        }
    }

    static void rulesThatAreNotTold() {
        Cachebench x = row("abc");
        for (int rule : new int[] {3, 4, 5, 6, 7, -2}) {
            refused("hits by the rule " + rule, NUMBER, () -> x.hits(rule, 2));
            refused("held by the rule " + rule, NUMBER, () -> x.holdsAfter(rule, 2, 1, 0));
        }
    }

    // ---- distance

    /** None, if there is none. */
    static void distancesOfFirstRequests() {
        Cachebench x = row(ALL_KEYS);
        for (int request = 0; request < 26; request++) due("none at " + request, x.distance(request), -1);
        due("mean distance", x.meanDistance(), 0.0f);
    }

    /** 1 plus the number of other keys: none between, all others between, each of them once. */
    static void theLeastAndTheGreatestDistance() {
        due("right behind", row("aa").distance(1), 1);
        due("all others between", row(ALL_KEYS + "a").distance(26), 26);
        due("each once", row("abbbbba").distance(6), 2);
        due("each once", row("abcbcbca").distance(7), 3);
    }

    /** Since the latest request for its key ahead of it. */
    static void onlySinceTheLatestRequest() {
        Cachebench x = row("abcaba");
        due("a", x.distance(3), 3);
        due("b, behind c and a", x.distance(4), 3);
        due("a, behind b alone", x.distance(5), 2);
        refused("behind the row", INDEX, () -> x.distance(6));
        refused("ahead of it", INDEX, () -> x.distance(-1));
    }

    // ---- phases

    /** As long as possible with at most so many unlike keys. */
    static void phasesBySize() {
        Cachebench x = row("aabbabcad");
        due("by 1", phasesOf(x, 1), "001123456");
        due("by 2", phasesOf(x, 2), "000000112");
        due("by 3", phasesOf(x, 3), "000000001");
        due("by 4", phasesOf(x, 4), "000000000");
        due("numbers", "" + x.phases(1) + x.phases(2) + x.phases(3) + x.phases(4) + x.phases(26), "73211");
    }

    /** With the first one behind the phase ahead: that key counts in the new phase alone. */
    static void aPhaseBeginsAnew() {
        due("by 2", phasesOf(row("abcbaab"), 2), "0011222");
        due("one request", phasesOf(row("z"), 1) + row("z").phases(1), "01");
        due("all keys", row(ALL_KEYS).phases(25) + " " + row(ALL_KEYS).phases(26), "2 1");
    }

    // ---- slack

    /** K * b + d * h - d * m, d = k - h + 1. */
    static void slackByItsParts() {
        Cachebench x = row("abcdabeabcde");
        for (int k = 1; k <= 26; k++) {
            for (int h = 1; h <= k; h++) {
                int d = k - h + 1;
                int due = k * (12 - x.hits(BEST, h)) + d * h - d * (12 - x.hits(0, k));
                due("k " + k + ", h " + h, x.slack(k, h), due);
            }
        }
        due("k 3, h 3", x.slack(3, 3), 14);
        due("k 1, h 1", x.slack(1, 1), 1);
    }

    /** Always 0 or above. */
    static void slackIsNeverBelowZero() {
        for (String text : new String[] {"", "a", "50(abcdef)", "11(" + ALL_KEYS + ")", "9(abcdefghijklmlkjihgfedcb)"}) {
            Cachebench x = row(text);
            boolean isBelow = false;
            for (int k = 1; k <= 26; k++) {
                for (int h = 1; h <= k; h++) isBelow |= x.slack(k, h) < 0;
            }
            due("below 0 of " + text, isBelow, false);
        }
    }

    // ---- shame

    private static String shame(int rule, int room, int greater, int keys, int most) {
        Cachebench x = new Cachebench();
        int length = x.shame(rule, room, greater, keys, most);
        String row = found(x);
        due("its length", length, row.isEmpty() ? -1 : row.length());
        return row;
    }

    /** The shortest one, of like ones the first, request by request. */
    static void theRowsThatShame() {
        due("first in, 3 and 4", shame(2, 3, 4, 5, 12), "abcdabeabcde");
        due("second chance, 2 and 3", shame(3, 2, 3, 4, 9), "aabbcdc");
        due("by more keys it is no other", shame(3, 2, 3, 5, 9), "aabbcdc");
        due("by fewer requests too", shame(3, 2, 3, 4, 7), "aabbcdc");
    }

    /** Rule, room, greater, keys, most and the row, for all arguments: found once by a search through all rows. */
    static void everySearch() {
        StringBuilder all = new StringBuilder();
        for (int rule = 2; rule <= 3; rule++) {
            for (int room = 1; room <= 4; room++) {
                for (int greater = room + 1; greater <= 6; greater++) searches(all, rule, room, greater);
            }
        }
        due("what is found", all.toString(), "2345 12 abcdabeabcde\n"
            + "3234 7 aabbcdc\n3234 8 aabbcdc\n3234 9 aabbcdc\n"
            + "3235 7 aabbcdc\n3235 8 aabbcdc\n3235 9 aabbcdc\n"
            + "3345 9 aabbccded\n");
    }

    /** The searches that find a row, one behind the other by the same object. */
    private static void searches(StringBuilder all, int rule, int room, int greater) {
        Cachebench x = new Cachebench();
        for (int keys = 2; keys <= 5; keys++) {
            for (int most = 1; most <= (rule == 2 ? 12 : 9); most++) {
                if (x.shame(rule, room, greater, keys, most) < 0) continue;
                all.append(rule).append(room).append(greater).append(keys).append(' ').append(most);
                all.append(' ').append(found(x)).append('\n');
            }
        }
    }

    static void tooShortOrTooFewKeys() {
        due("11 requests", shame(2, 3, 4, 5, 11), "");
        due("4 keys", shame(2, 3, 4, 4, 12), "");
        due("6 requests", shame(3, 2, 3, 4, 6), "");
        due("2 keys", shame(3, 2, 3, 2, 9), "");
    }

    static void theLeastArguments() {
        due("first in", shame(2, 1, 2, 2, 1), "");
        due("second chance", shame(3, 1, 2, 2, 1), "");
        due("longest, least", shame(2, 1, 2, 2, 12), "");
        due("longest, least", shame(3, 1, 2, 2, 9), "");
    }

    static void theGreatestArguments() {
        due("first in", shame(2, 4, 6, 5, 12), "");
        due("second chance", shame(3, 4, 6, 5, 9), "");
        due("room 1, greater 6", shame(2, 1, 6, 5, 12), "");
        due("room 4, greater 5", shame(2, 4, 5, 5, 12), "");
    }

    /** Keeps it, in place of one that is kept; if there is none, none is kept. */
    static void theRowThatIsKept() {
        Cachebench x = new Cachebench();
        due("none at first", found(x), "");
        x.shame(2, 3, 4, 5, 12);
        due("kept", found(x), "abcdabeabcde");
        x.shame(3, 2, 3, 4, 9);
        due("in place of it", found(x), "aabbcdc");
        refused("refused", NUMBER, () -> x.shame(3, 2, 3, 4, 10));
        due("kept still", found(x), "aabbcdc");
        due("none", x.shame(3, 2, 3, 4, 6), -1);
        due("none is kept", found(x), "");
        x.shame(2, 3, 4, 5, 12);
        due("kept again", found(x), "abcdabeabcde");
    }

    /** No row is kept, or it has no such place. */
    static void placesOfTheRowThatIsKept() {
        Cachebench x = new Cachebench();
        refused("none is kept", ABSENT, () -> x.shameAt(0));
        x.shame(3, 2, 3, 4, 9);
        due("the first", x.shameAt(0), 0);
        due("the last", x.shameAt(6), 2);
        refused("behind it", ABSENT, () -> x.shameAt(7));
        refused("ahead of it", ABSENT, () -> x.shameAt(-1));
        refused("where a longer one was", ABSENT, () -> x.shameAt(11));
    }

    /** By SECOND_CHANCE 1 to 9, by FIRST_IN 1 to 12. */
    static void theGreatestLength() {
        Cachebench x = new Cachebench();
        refused("second chance, 10", NUMBER, () -> x.shame(3, 1, 2, 2, 10));
        refused("second chance, 12", NUMBER, () -> x.shame(3, 1, 2, 2, 12));
        refused("first in, 13", NUMBER, () -> x.shame(2, 1, 2, 2, 13));
        due("first in, 10", x.shame(2, 1, 2, 2, 10), -1);
    }

    // ---- measures

    /** Its hits as a double, divided by its hits and misses together as a double; 0.0 without any. */
    static void sharesOfHits() {
        Cachebench x = new Cachebench();
        due("without any", x.hitShare(0), 0.0);
        x.request(0, false);
        due("a miss", x.hitShare(0), 0.0);
        ask(x, "ab");
        due("a third", x.hitShare(0), 1.0 / 3.0);
        x.setCache(0, 0, 4, 0, 0);
        due("emptied", x.hitShare(0), 0.0);
        ask(x, "aaa");
        due("since then", x.hitShare(0), 2.0 / 3.0);
        x.setKey(25, 8, 1, 0);
        ask(x, "z");
        due("what passes by is a miss", x.hitShare(0), 2.0 / 4.0);
    }

    /** The sum of the distances as a float, divided by their number as a float; 0.0f without any. */
    static void meanDistances() {
        due("one", row("aa").meanDistance(), 1.0f);
        due("one, and one without", row("aba").meanDistance(), 2.0f);
        due("3, 3 and 2", row("abcaba").meanDistance(), 8.0f / 3.0f);
        due("as floats", (double) row("abcaba").meanDistance() == 8.0 / 3.0, false);
    }

    static void theMeanDistanceOfAFullRow() {
        Cachebench x = row("b50(a)50(a)50(a)50(a)50(a)48(a)b");
        due("a full row", x.rowLength(), 300);
        due("the distance of the last request", x.distance(299), 2);
        due("it counts", x.meanDistance(), 299.0f / 298.0f);
    }

    /** Always 0. */
    static void noErrors() {
        for (String text : new String[] {"a", "50(6(a))", "12(" + ALL_KEYS.substring(1) + ")", "5(abcdabeabcde)", "9(abcdefghijklmlkjihgfedcb)"}) {
            Cachebench x = row(text);
            due("errors of " + text, x.errors(), 0);
            due("asked again", x.errors(), 0);
        }
        for (int seed = 1; seed <= 20; seed++) {
            Cachebench x = new Cachebench();
            for (int i = 0; i < 6; i++) x.draw(seed * 77 + i, 50, 1 + (seed * 5 + i) % 26, 0);
            due("errors of drawn rows", x.errors(), 0);
        }
    }

    public static void main(String[] args) {
        runAll(RowEdgesTest.class);
    }
}
