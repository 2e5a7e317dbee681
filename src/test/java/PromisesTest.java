/** Each promise of the document by itself: ordinary inputs, the edges that it names, wrong inputs. */
public final class PromisesTest extends Checks {

    private static void p01NewObject() {
        Cachebench x = new Cachebench();
        for (int key = 0; key < 26; key++) {
            due("p1 size", x.keyAt(key, 0), 1);
            due("p1 cost", x.keyAt(key, 1), 1);
            due("p1 owner", x.keyAt(key, 2), 0);
            due("p1 asked", x.keyAt(key, 3), 0);
        }
        due("p1 now", x.now(), 0);
        due("p1 row", x.rowLength(), 0);
        for (int cache = 0; cache < 6; cache++) {
            due("p1 rule", x.cacheAt(cache, 0), cache == 5 ? 6 : cache);
            due("p1 room", x.cacheAt(cache, 1), 4);
            for (int what = 2; what < 8; what++) {
                due("p1 cache", x.cacheAt(cache, what), 0);
            }
            for (int what = 0; what < 9; what++) {
                due("p1 count", x.count(cache, what), 0);
            }
            due("p1 share", x.ownerAt(cache, 0, true), 0);
        }
        due("p1 text", x.clearText(), 0);
        refused("p1 cursor", STATE, () -> x.next());
        refused("p1 shame", ABSENT, () -> x.shameAt(0));
        refused("p1 undo", STATE, () -> x.undo());
        due("p1 constants", "" + Cachebench.NONE + Cachebench.LAST_USE + Cachebench.FEWEST + Cachebench.FIRST_IN
            + Cachebench.SECOND_CHANCE + Cachebench.TWO_QUEUES + Cachebench.LEAST_COST + Cachebench.ADAPTING, "-10123456");
    }

    private static void p02SetKey() {
        Cachebench x = new Cachebench();
        due("p2", x.setKey(25, 8, 1000, 3), 1);
        due("p2 again", x.setKey(25, 1, 0, 0), 8);
        due("p2 size", x.keyAt(25, 0), 1);
        due("p2 cost", x.keyAt(25, 1), 0);
        refused("p2 key", INDEX, () -> x.setKey(26, 0, 0, 0));
        refused("p2 key", INDEX, () -> x.setKey(-1, 1, 1, 0));
        refused("p2 size", NUMBER, () -> x.setKey(0, 0, 1, 0));
        refused("p2 size", NUMBER, () -> x.setKey(0, 9, 1, 0));
        refused("p2 cost", NUMBER, () -> x.setKey(0, 1, -1, 0));
        refused("p2 cost", NUMBER, () -> x.setKey(0, 1, 1001, 0));
        refused("p2 owner", NUMBER, () -> x.setKey(0, 1, 1, -1));
        refused("p2 owner", NUMBER, () -> x.setKey(0, 1, 1, 4));
        x.request(0, false);
        refused("p2 held", STATE, () -> x.setKey(0, 1, 1, 0));
        refused("p2 number first", NUMBER, () -> x.setKey(0, 9, 1, 0));
        for (int cache = 0; cache < 6; cache++) {
            x.drop(cache, 0);
        }
        refused("p2 held by a shadow", STATE, () -> x.setKey(0, 1, 1, 0));
        x.setCache(5, 0, 4, 0, 0);
        due("p2 free", x.setKey(0, 2, 1, 0), 1);
    }

    private static void p03Pass() {
        Cachebench x = with(0, 0, 4, 5, 0);
        x.setCache(1, 0, 4, 6, 1);
        x.request(0, false);
        due("p3", x.pass(2), 0);
        x.request(1, true);
        x.request(0, false);
        due("p3 not yet", x.pass(2), 0);
        due("p3 to read leaves the minute", x.pass(1), 1);
        due("p3 left", x.holds(0, 0), false);
        due("p3 held", x.holds(1, 0), true);
        due("p3 both", x.pass(1000), 3);
        due("p3 lapsed", x.count(1, 3), 2);
        due("p3 put out", x.count(1, 2), 0);
        due("p3 a dirty key lapsed", x.count(1, 4), 1);
        due("p3 now", x.now(), 1005);
        x.request(2, true);
        x.pass(4);
        x.request(2, true);
        due("p3 to write sets the minute", x.pass(4), 0);
        due("p3 as soon as", x.pass(1), 1);
        refused("p3", NUMBER, () -> x.pass(0));
        refused("p3", NUMBER, () -> x.pass(1001));
        refused("p3", NUMBER, () -> x.pass(-5));
        due("p3 no lapse", x.holds(2, 2), true);
        Cachebench y = with(4, 4, 4, 3, 0);
        y.request(0, false);
        y.pass(3);
        due("p3 not remembered", y.remembers(4, 0), false);
    }

    private static void p04Request() {
        Cachebench x = new Cachebench();
        x.setCache(3, 3, 1, 0, 0);
        due("p4", x.request(0, false), 0);
        due("p4 all", x.request(0, true), 63);
        x.request(1, false);
        due("p4 bits", x.request(0, false), 63 - 8);
        due("p4 through", x.count(0, 4), 1);
        refused("p4", INDEX, () -> x.request(26, false));
        refused("p4", INDEX, () -> x.request(-1, true));
        Cachebench full = longRow(299);
        due("p4 last", full.request(0, false), 63);
        refused("p4 full", STATE, () -> full.request(0, false));
        refused("p4 index first", INDEX, () -> full.request(26, false));
        due("p4 row", full.rowLength(), 300);
    }

    private static void p04Steps() {
        Cachebench x = with(0, 0, 3, 0, 1);
        x.setKey(9, 4, 7, 0);
        x.request(0, true);
        due("p4 kept", x.count(0, 4), 0);
        due("p4 dirty", x.isDirty(0, 0), true);
        x.request(9, true);
        due("p4 passes by", x.outcome(0, 1), 2);
        due("p4 passes", x.count(0, 5), 1);
        due("p4 a write that passes by", x.count(0, 4), 1);
        due("p4 costs", x.count(0, 8), 8);
        due("p4 nothing goes for it", order(x, 0), "a");
        ask(x, "bcd");
        due("p4 a dirty key put out", x.count(0, 4), 2);
        due("p4 put out", x.count(0, 2), 1);
        ask(x, "a");
        due("p4 clean again", x.isDirty(0, 0), false);
        Cachebench y = with(0, 0, 8, 0, 0);
        y.setKey(3, 5, 1, 0);
        ask(y, "abcefghi");
        y.request(3, false);
        due("p4 until there is room", order(y, 0), "ghid");
        due("p4 as long as", y.count(0, 2), 5);
    }

    private static void p04Fetch() {
        Cachebench x = with(0, 0, 2, 0, 2);
        ask(x, "abca");
        due("p4 fetched behind x", order(x, 0), "ab");
        due("p4 fetches", x.count(0, 6), 1);
        due("p4 useful", x.count(0, 7), 0);
        ask(x, "b");
        due("p4 useful hit", x.count(0, 7), 1);
        due("p4 one hit", x.count(0, 0), 1);
        ask(x, "b");
        due("p4 only the first hit", x.count(0, 7), 1);
        Cachebench y = with(0, 0, 4, 0, 2);
        ask(y, "aa");
        due("p4 y is x", y.count(0, 6), 0);
        ask(y, "bcdefa");
        due("p4 by the latest request ahead", y.count(0, 6), 1);
        due("p4 order", order(y, 0), "efab");
        ask(y, "a");
        due("p4 y is x again", y.count(0, 6), 1);
        due("p4 order", order(y, 0), "efba");
        Cachebench z = with(0, 0, 5, 0, 3);
        z.setKey(0, 3, 1, 0);
        z.setKey(1, 3, 1, 0);
        ask(z, "abcda");
        due("p4 not with that of x", z.holds(0, 1), false);
        z.setCache(1, 2, 2, 0, 2);
        ask(z, "acdeaa!");
        due("p4 x that passes by fetches", z.holds(1, 2), true);
        due("p4 fetched is not dirty", z.isDirty(1, 2), false);
        Cachebench w = with(1, 1, 2, 0, 2);
        ask(w, "abcdb");
        w.setCache(1, 1, 2, 0, 2);
        ask(w, "b");
        due("p4 only what it was fed with", w.count(1, 6), 0);
    }

    private static void p04LastUseFewestFirstIn() {
        Cachebench x = new Cachebench();
        ask(x, "abcdae");
        due("p4 last use", order(x, 0), "cdae");
        due("p4 fewest", order(x, 1), "cdea");
        due("p4 first in", order(x, 2), "bcde");
        Cachebench y = with(1, 1, 2, 0, 0);
        y.setKey(2, 3, 1, 0);
        ask(y, "aabcccd");
        due("p4 fewest, also the requests at which it was not held", order(y, 1), "da");
        Cachebench z = with(1, 1, 1, 0, 0);
        z.setCache(0, 1, 2, 0, 0);
        ask(z, "ababc");
        due("p4 fewest, asked longest ago", order(z, 0), "cb");
        ask(z, "ca");
        due("p4 fewest counts from before it was held", order(z, 0), "ca");
    }

    private static void p04SecondChance() {
        Cachebench x = with(3, 3, 3, 0, 0);
        ask(x, "abcab");
        due("p4 victim", x.victim(3, 9), 2);
        due("p4 nothing turned", order(x, 3), "abc");
        ask(x, "d");
        due("p4 marks lost", order(x, 3), "abd");
        ask(x, "abd");
        due("p4 all marked", x.victim(3, 9), 0);
        ask(x, "e");
        due("p4 once round", order(x, 3), "bde");
        Cachebench y = with(3, 3, 3, 0, 0);
        y.setKey(1, 1, 1, 1);
        y.setShares(3, 2, 0, 0, 0);
        ask(y, "abc");
        due("p4 the owner beyond the share", y.victim(3, 3), 0);
        y.setShares(3, 3, 0, 0, 0);
        due("p4 the other owner", y.victim(3, 3), 1);
        ask(y, "d");
        due("p4 what can't go comes to the end as it is", order(y, 3), "cad");
    }

    private static void p04TwoQueues() {
        Cachebench x = with(4, 4, 4, 0, 0);
        ask(x, "abcde");
        due("p4 young first in", order(x, 4), "bcde");
        due("p4 remembered", x.remembers(4, 0), true);
        ask(x, "a");
        due("p4 old behind the young", order(x, 4), "cdea");
        due("p4 remembered no more", x.remembers(4, 0), false);
        ask(x, "bcd");
        due("p4 an old one goes, they are not above it", order(x, 4), "ebcd");
        due("p4 only what is put out young", x.cacheAt(4, 7), 0);
        ask(x, "fe");
        due("p4 the hit leaves it what it is", order(x, 4), "efcd");
        due("p4 young ones above it", x.victim(4, 25), 4);
        ask(x, "cgh");
        due("p4 the old one used longest ago", order(x, 4), "ghdc");
        Cachebench y = with(4, 4, 4, 0, 0);
        ask(y, "abcdefgh");
        due("p4 as many as units", y.cacheAt(4, 7), 4);
        ask(y, "i");
        due("p4 the one put out longest ago", y.remembers(4, 0), false);
        due("p4 the others", y.remembers(4, 1), true);
        ask(y, "b");
        due("p4 remembered behind what was put out for it", y.keyInOrder(4, 0), 6);
        due("p4 it was put out of those", y.cacheAt(4, 7), 4);
        Cachebench z = with(4, 4, 8, 0, 0);
        ask(z, "abcdefghijab");
        due("p4 a quarter of eight", order(z, 4), "efghijab");
        Cachebench w = with(4, 4, 2, 0, 0);
        w.setKey(0, 2, 1, 0);
        ask(w, "abca");
        due("p4 what was put out for it", w.cacheAt(4, 7), 2);
        ask(w, "d");
        due("p4 remembered no more behind that, so it was young", w.remembers(4, 0), true);
    }

    private static void p04LeastCost() {
        Cachebench x = with(0, 5, 2, 0, 0);
        x.setKey(0, 1, 3, 0);
        x.setKey(1, 2, 4, 0);
        x.setKey(3, 1, 2, 0);
        ask(x, "cd");
        due("p4 worths", x.worth(0, 3), 1680L);
        due("p4 order by worth", order(x, 0), "cd");
        ask(x, "a");
        due("p4 the level", x.worth(0, -1), 840L);
        due("p4 from the level", x.worth(0, 0), 3360L);
        due("p4 not anew", x.worth(0, 3), 1680L);
        ask(x, "d");
        due("p4 when used", x.worth(0, 3), 2520L);
        Cachebench y = with(0, 5, 2, 0, 0);
        ask(y, "bac");
        due("p4 of like ones the lesser", order(y, 0), "bc");
    }

    private static void p04Adapting() {
        Cachebench x = with(5, 6, 2, 0, 0);
        ask(x, "aab");
        due("p4 leans to last use", x.leaning(5), 0);
        due("p4 its victim", x.victim(5, 2), 0);
        ask(x, "c");
        ask(x, "a");
        due("p4 leans to fewest", x.leaning(5), 1);
        ask(x, "c!");
        due("p4 by fewest", x.victim(5, 3), 2);
        due("p4 order by use", order(x, 5), "ac");
    }

    private static void p04Shares() {
        Cachebench x = with(0, 0, 4, 0, 0);
        for (int key = 4; key < 8; key++) {
            x.setKey(key, 1, 1, 1);
        }
        x.setShares(0, 2, 2, 0, 0);
        ask(x, "abef");
        due("p4 the key that comes in counts", x.victim(0, 6), 4);
        due("p4 that of the other", x.victim(0, 2), 0);
        ask(x, "g");
        due("p4 those of the owner", order(x, 0), "abfg");
        x.setShares(0, 2, 1, 0, 0);
        due("p4 no share is kept for it", x.victim(0, 25), 0);
        x.setShares(0, 3, 1, 0, 0);
        due("p4 only who has more", x.victim(0, 25), 5);
        x.setShares(0, 4, 0, 0, 0);
        x.setKey(8, 1, 1, 3);
        due("p4 no share at all", x.victim(0, 8), 5);
        Cachebench y = with(0, 0, 3, 0, 2);
        y.setKey(0, 1, 1, 2);
        y.setShares(0, 1, 0, 0, 0);
        ask(y, "abcda");
        due("p4 x stays though beyond", order(y, 0), "dab");
    }

    private static void p05Draw() {
        Cachebench x = new Cachebench();
        Cachebench y = new Cachebench();
        int seed = 12345;
        int bits = 0;
        for (int i = 0; i < 50; i++) {
            seed = seed * 1103515245 + 12345;
            int key = (seed >>> 16) % 7;
            seed = seed * 1103515245 + 12345;
            bits += Integer.bitCount(y.request(key, (seed >>> 16) % 100 < 30));
        }
        due("p5", x.draw(12345, 50, 7, 30), bits);
        for (int i = 0; i < 50; i++) {
            due("p5 key", x.requestAt(i, 0), y.requestAt(i, 0));
            due("p5 write", x.requestAt(i, 1), y.requestAt(i, 1));
        }
        due("p5 one change", x.undo(), 0);
        due("p5 all gone", x.rowLength(), 0);
        x.draw(-1, 50, 26, 0);
        x.draw(Integer.MIN_VALUE, 50, 1, 100);
        for (int i = 0; i < 50; i++) {
            due("p5 reads", x.requestAt(i, 1), 0);
            due("p5 writes", x.requestAt(50 + i, 1), 1);
            due("p5 one key", x.requestAt(50 + i, 0), 0);
        }
        refused("p5", NUMBER, () -> x.draw(0, 0, 1, 0));
        refused("p5", NUMBER, () -> x.draw(0, 51, 1, 0));
        refused("p5", NUMBER, () -> x.draw(0, 1, 0, 0));
        refused("p5", NUMBER, () -> x.draw(0, 1, 27, 0));
        refused("p5", NUMBER, () -> x.draw(0, 1, 1, -1));
        refused("p5", NUMBER, () -> x.draw(0, 1, 1, 101));
        Cachebench full = longRow(260);
        refused("p5 full", STATE, () -> full.draw(0, 41, 1, 0));
        refused("p5 number first", NUMBER, () -> full.draw(0, 41, 27, 0));
        due("p5 just full", full.draw(0, 40, 1, 0), 240);
    }

    private static void p06Run() {
        Cachebench x = new Cachebench();
        due("p6 empty", x.run(), 0);
        due("p6 a change all the same", x.undo(), 0);
        due("p6", ask(x, " 2 ( a ! 2(b) z ) c"), 9);
        String row = "";
        for (int i = 0; i < 9; i++) {
            row += (char) ('a' + x.requestAt(i, 0)) + (x.requestAt(i, 1) == 1 ? "!" : "");
        }
        due("p6 row", row, "a!bbza!bbzc");
        due("p6 the text stays", x.run(), 9);
        due("p6 undo", x.undo(), 1);
        due("p6 row", x.rowLength(), 9);
        typeAll(x, "a(");
        refused("p6 error", NUMBER, () -> x.run());
        typeAll(x, "50(50(50()))6(50(a))");
        refused("p6 too many", STATE, () -> x.run());
        typeAll(x, "50(50(50(abcdefghijklmnopqrstuvwxyz)))");
        refused("p6 far too many", STATE, () -> x.run());
        x.clearRow();
        due("p6 full", ask(x, "50(50(50()))6(50(a!))"), 300);
        due("p6 the last", x.requestAt(299, 1), 1);
        typeAll(x, "a");
        refused("p6 one more", STATE, () -> x.run());
        typeAll(x, ")");
        refused("p6 the error first", NUMBER, () -> x.run());
        due("p6 none more", ask(x, "3(2())"), 0);
    }

    private static void p07ClearRow() {
        Cachebench x = with(4, 4, 3, 7, 3);
        x.setShares(4, 1, 2, 0, 0);
        x.pass(9);
        ask(x, "abcdea!");
        due("p7", x.clearRow(), 6);
        due("p7 row", x.rowLength(), 0);
        due("p7 time", x.now(), 9);
        due("p7 holds", x.cacheAt(4, 4), 0);
        due("p7 dirty", x.cacheAt(4, 6), 0);
        due("p7 remembers", x.cacheAt(4, 7), 0);
        due("p7 counts", x.count(4, 1), 0);
        due("p7 emptying is no writing", x.count(4, 4), 0);
        due("p7 the lapse", x.cacheAt(4, 2), 7);
        due("p7 the shares", x.ownerAt(4, 1, true), 2);
        due("p7 countOf", x.countOf(4, 0, false), 0);
        due("p7 asked", x.keyAt(0, 3), 0);
        x.request(0, false);
        due("p7 nothing to fetch", x.count(4, 6), 0);
        due("p7 again", x.clearRow(), 1);
    }

    private static void p08SetCache() {
        Cachebench x = new Cachebench();
        ask(x, "abc");
        x.setShares(2, 1, 1, 1, 1);
        due("p8", x.setCache(2, 6, 20, 1000, 3), 3);
        due("p8 rule", x.cacheAt(2, 0), 6);
        due("p8 room", x.cacheAt(2, 1), 20);
        due("p8 lapse", x.cacheAt(2, 2), 1000);
        due("p8 mode", x.cacheAt(2, 3), 3);
        due("p8 empty", x.cacheAt(2, 4), 0);
        due("p8 shares", x.ownerAt(2, 0, true), 0);
        due("p8 counts", x.count(2, 1), 0);
        due("p8 not fed", x.outcome(2, 2), -1);
        x.request(0, false);
        due("p8 fed", x.outcome(2, 3), 1);
        due("p8 leaning", x.leaning(2), 0);
        due("p8 the same anew", x.setCache(2, 6, 20, 1000, 3), 1);
        refused("p8", INDEX, () -> x.setCache(6, 9, 1, 0, 0));
        refused("p8", INDEX, () -> x.setCache(-1, 0, 1, 0, 0));
        refused("p8", NUMBER, () -> x.setCache(0, 7, 1, 0, 0));
        refused("p8", NUMBER, () -> x.setCache(0, -1, 1, 0, 0));
        refused("p8", NUMBER, () -> x.setCache(0, 0, 0, 0, 0));
        refused("p8", NUMBER, () -> x.setCache(0, 0, 21, 0, 0));
        refused("p8", NUMBER, () -> x.setCache(0, 0, 1, -1, 0));
        refused("p8", NUMBER, () -> x.setCache(0, 0, 1, 1001, 0));
        refused("p8", NUMBER, () -> x.setCache(0, 0, 1, 0, -1));
        refused("p8", NUMBER, () -> x.setCache(0, 0, 1, 0, 4));
    }

    private static void p09SetShares() {
        Cachebench x = new Cachebench();
        x.setKey(1, 2, 1, 1);
        ask(x, "ab");
        due("p9", x.setShares(0, 1, 1, 1, 1), 1);
        due("p9 both", x.setShares(0, 0, 1, 1, 1), 2);
        due("p9 none", x.setShares(0, 1, 3, 0, 0), 0);
        due("p9 no shares", x.setShares(0, 0, 0, 0, 0), 0);
        due("p9 nothing leaves", order(x, 0), "ab");
        due("p9 told", x.setShares(5, 0, 0, 0, 4), 2);
        refused("p9", INDEX, () -> x.setShares(6, -1, 0, 0, 0));
        refused("p9", NUMBER, () -> x.setShares(0, -1, 1, 1, 1));
        refused("p9", NUMBER, () -> x.setShares(0, 1, -1, 1, 1));
        refused("p9", NUMBER, () -> x.setShares(0, 1, 1, -1, 1));
        refused("p9", NUMBER, () -> x.setShares(0, 1, 1, 1, -1));
        refused("p9 above the room", NUMBER, () -> x.setShares(0, 1, 1, 1, 2));
        int most = Integer.MAX_VALUE;
        refused("p9 far above", NUMBER, () -> x.setShares(0, most, most, 2, 0));
    }

    private static void p10Flush() {
        Cachebench x = with(0, 0, 4, 0, 1);
        ask(x, "a!b!c");
        due("p10", x.flush(0), 2);
        due("p10 writings", x.count(0, 4), 2);
        due("p10 held on", order(x, 0), "abc");
        due("p10 not dirty", x.cacheAt(0, 6), 0);
        due("p10 again", x.flush(0), 0);
        due("p10 a change all the same", x.undo(), 3);
        refused("p10", INDEX, () -> x.flush(6));
        refused("p10", INDEX, () -> x.flush(-1));
    }

    private static void p11Drop() {
        Cachebench x = with(4, 4, 4, 0, 1);
        ask(x, "ab!");
        due("p11", x.drop(4, 0), false);
        due("p11 dirty", x.drop(4, 1), true);
        due("p11 a writing", x.count(4, 4), 1);
        due("p11 not put out", x.count(4, 2), 0);
        due("p11 not remembered", x.cacheAt(4, 7), 0);
        due("p11 gone", x.holds(4, 1), false);
        due("p11 the others hold it", x.holds(3, 1), true);
        refused("p11", INDEX, () -> x.drop(6, 0));
        refused("p11", INDEX, () -> x.drop(0, 26));
        refused("p11", ABSENT, () -> x.drop(4, 1));
    }

    private static void p12Replay() {
        Cachebench x = new Cachebench();
        due("p12 empty", x.replay(), 0);
        x.setCache(0, 0, 4, 5, 1);
        x.request(0, true);
        x.request(9, false);
        x.pass(3);
        x.drop(0, 0);
        x.request(0, false);
        x.pass(1);
        x.flush(0);
        due("p12 hits", x.replay(), 6);
        due("p12 a hit now", x.outcome(0, 2), 0);
        due("p12 dirty again", x.isDirty(0, 0), true);
        x.pass(1);
        due("p12 lapsed", x.count(0, 3), 2);
        x.request(0, false);
        x.pass(5);
        due("p12 in between and up to the time", x.replay(), 11);
        due("p12 lapsed", x.count(0, 3), 3);
        due("p12 writings", x.count(0, 4), 1);
        due("p12 nothing held", x.cacheAt(0, 4), 0);
        x.setCache(1, 1, 1, 0, 0);
        due("p12 fed with all", x.replay(), 4 * 2 + 1 + 1);
        due("p12 the time", x.now(), 10);
        x.undo();
        due("p12 undone", x.outcome(1, 0), -1);
    }

    private static void p13DropTold() {
        Cachebench x = with(0, 0, 4, 0, 1);
        refused("p13 closed", STATE, () -> x.dropTold());
        ask(x, "ab!c");
        x.open(0);
        refused("p13 none told", STATE, () -> x.dropTold());
        x.next();
        due("p13", x.dropTold(), 0);
        refused("p13 taken out", STATE, () -> x.dropTold());
        due("p13 open", x.next(), 1);
        due("p13 next", x.dropTold(), 1);
        due("p13 a writing", x.count(0, 4), 1);
        due("p13 next", x.next(), 2);
        refused("p13 the end", ABSENT, () -> x.next());
        due("p13 the last told", x.dropTold(), 2);
        due("p13 nothing left", x.cacheAt(0, 4), 0);
        due("p13 a change", x.undo(), 4);
        due("p13 undone", order(x, 0), "c");
        refused("p13 closed by undo", STATE, () -> x.dropTold());
    }

    private static void p14Undo() {
        Cachebench x = new Cachebench();
        for (int i = 0; i < 8; i++) {
            x.pass(1);
        }
        refused("p14 no change", NUMBER, () -> x.pass(0));
        for (int left = 5; left >= 0; left--) {
            due("p14", x.undo(), left);
            due("p14 now", x.now(), 3 + left - 1);
        }
        refused("p14 none", STATE, () -> x.undo());
        x.pass(7);
        x.pass(7);
        due("p14 again", x.undo(), 1);
        x.pass(1);
        due("p14 behind an undo", x.undo(), 1);
        due("p14 now", x.now(), 9);
        Cachebench y = with(4, 4, 4, 9, 3);
        y.setKey(7, 3, 4, 2);
        y.setShares(4, 1, 0, 2, 0);
        ask(y, "a!bcdefa!h");
        String before = picture(y);
        y.clearRow();
        y.pass(5);
        ask(y, "zy!x!w!v!u!");
        y.setCache(4, 6, 2, 3, 0);
        y.setKey(0, 2, 2, 2);
        due("p14 five", y.undo(), 5);
        y.undo();
        y.undo();
        y.undo();
        due("p14 all of it", y.undo(), 1);
        due("p14 picture", picture(y), before);
        due("p14 the text stays", y.clearText(), 11);
        y.shame(2, 3, 4, 5, 12);
        y.undo();
        due("p14 the row that was found stays", y.shameAt(0), 0);
    }

    private static void p15Open() {
        Cachebench x = new Cachebench();
        due("p15 empty", x.open(0), 0);
        ask(x, "abcda");
        due("p15", x.open(0), 4);
        due("p15 first", x.next(), 1);
        due("p15 in place", x.open(2), 4);
        due("p15 first", x.next(), 0);
        refused("p15", INDEX, () -> x.open(6));
        refused("p15", INDEX, () -> x.open(-1));
        due("p15 open on", x.next(), 1);
        Call[] changes = {
            () -> x.setKey(20, 1, 1, 1), () -> x.pass(1), () -> x.request(1, true), () -> x.draw(1, 1, 1, 1), () -> x.run(),
            () -> x.clearRow(), () -> x.setCache(1, 1, 1, 1, 1), () -> x.setShares(1, 0, 0, 0, 0), () -> x.flush(1),
            () -> x.replay(), () -> x.undo(), () -> x.request(1, true), () -> x.drop(0, 1),
        };
        for (int i = 0; i < changes.length; i++) {
            x.open(0);
            changes[i].answer();
            refused("p15 closed by change " + i, STATE, () -> x.next());
        }
        x.open(0);
        refused("p15 refused", NUMBER, () -> x.pass(0));
        x.clearText();
        x.type(97);
        x.errorPlace();
        refused("p15 not closed", ABSENT, () -> x.next());
    }

    private static void p16Next() {
        Cachebench x = new Cachebench();
        refused("p16 closed", STATE, () -> x.next());
        ask(x, "dbcab");
        x.open(1);
        due("p16", x.next(), 3);
        due("p16", x.next(), 2);
        due("p16", x.next(), 0);
        due("p16", x.next(), 1);
        refused("p16 the end", ABSENT, () -> x.next());
        refused("p16 the end", ABSENT, () -> x.next());
    }

    private static void p17Type() {
        Cachebench x = new Cachebench();
        due("p17", x.type(0), 1);
        due("p17", x.type(255), 2);
        refused("p17", NUMBER, () -> x.type(-1));
        refused("p17", NUMBER, () -> x.type(256));
        for (int i = 3; i <= 200; i++) {
            due("p17 length", x.type(32), i);
        }
        refused("p17 full", STATE, () -> x.type(32));
        refused("p17 number first", NUMBER, () -> x.type(256));
        refused("p17 no change", STATE, () -> x.undo());
    }

    private static void p18ClearText() {
        Cachebench x = new Cachebench();
        due("p18 empty", x.clearText(), 0);
        typeAll(x, "abc");
        due("p18", x.clearText(), 3);
        due("p18 again", x.clearText(), 0);
        due("p18 nothing told", x.run(), 0);
    }

    private static void p19ErrorPlace() {
        String[] right = {"", " ", "a", "z!", "a !", "1()", "50(a)", "05(a)", "2 ( 3(4(b!)) c )", "2(a)3(b)", "1(1(1()))1(1(1()))"};
        for (String text : right) {
            due("p19 \"" + text + "\"", errorOf(text), -1);
        }
        Object[][] errors = {
            {"!", 0}, {"a!!", 2}, {"a)", 1}, {"(a)", 0}, {"A", 0}, {"a{", 1}, {"`", 0}, {"2", 1}, {"2 ", 2}, {"2(", 2},
            {"2(a", 3}, {"2(a ", 4}, {"0(a)", 0}, {"00(a)", 0}, {"51(a)", 0}, {"99", 0}, {"100(a)", 0}, {"005(a)", 0},
            {"a 0", 2}, {"1 2(a)", 2}, {"2a", 1}, {"2!", 1}, {"2)", 1}, {"2(3)", 3}, {"2(a)!", 4}, {"2(!)", 2},
            {"2(2(2(2(a))))", 7}, {"2(2(2(2", 7}, {"2(2(2(51(a))))", 6}, {"2(2(2(2 (", 8}, {"a\tb", 1}, {"2(a))", 4},
            {"a" + (char) 233, 1}, {"/", 0}, {":", 0}, {"51", 0}, {"50", 2}, {"2(a)(b)", 4}, {"a2!", 2},
        };
        for (Object[] error : errors) {
            due("p19 \"" + error[0] + "\"", errorOf((String) error[0]), error[1]);
        }
    }

    private static void p20KeyAt() {
        Cachebench x = new Cachebench();
        x.setKey(3, 5, 17, 2);
        ask(x, "dad");
        due("p20 size", x.keyAt(3, 0), 5);
        due("p20 cost", x.keyAt(3, 1), 17);
        due("p20 owner", x.keyAt(3, 2), 2);
        due("p20 asked", x.keyAt(3, 3), 2);
        due("p20 asked", x.keyAt(0, 3), 1);
        refused("p20", INDEX, () -> x.keyAt(26, 9));
        refused("p20", INDEX, () -> x.keyAt(-1, 0));
        refused("p20", NUMBER, () -> x.keyAt(0, 4));
        refused("p20", NUMBER, () -> x.keyAt(0, -1));
    }

    private static void p21to23TimeAndRow() {
        Cachebench x = new Cachebench();
        x.pass(3);
        x.request(4, false);
        x.pass(1000);
        x.request(5, true);
        due("p21", x.now(), 1003);
        due("p22", x.rowLength(), 2);
        due("p23 key", x.requestAt(1, 0), 5);
        due("p23 write", x.requestAt(1, 1), 1);
        due("p23 read", x.requestAt(0, 1), 0);
        due("p23 minute", x.requestAt(0, 2), 3);
        due("p23 minute", x.requestAt(1, 2), 1003);
        refused("p23", INDEX, () -> x.requestAt(2, 7));
        refused("p23", INDEX, () -> x.requestAt(-1, 0));
        refused("p23", NUMBER, () -> x.requestAt(0, 3));
        refused("p23", NUMBER, () -> x.requestAt(0, -1));
    }

    private static void p24to27Caches() {
        Cachebench x = with(0, 0, 4, 0, 1);
        x.setKey(1, 2, 1, 3);
        ask(x, "ab!");
        due("p24", x.holds(0, 1), true);
        due("p24 not", x.holds(0, 2), false);
        due("p25", x.isDirty(0, 1), true);
        due("p25 clean", x.isDirty(0, 0), false);
        due("p25 not held", x.isDirty(0, 2), false);
        due("p25 through", x.isDirty(1, 1), false);
        due("p26 keys", x.cacheAt(0, 4), 2);
        due("p26 sizes", x.cacheAt(0, 5), 3);
        due("p26 dirty", x.cacheAt(0, 6), 1);
        due("p26 remembers", x.cacheAt(0, 7), 0);
        x.setShares(0, 0, 1, 0, 3);
        due("p27", x.ownerAt(0, 3, false), 2);
        due("p27", x.ownerAt(0, 0, false), 1);
        due("p27 share", x.ownerAt(0, 3, true), 3);
        due("p27 share", x.ownerAt(0, 0, true), 0);
        refused("p24", INDEX, () -> x.holds(6, 0));
        refused("p24", INDEX, () -> x.holds(0, 26));
        refused("p25", INDEX, () -> x.isDirty(-1, 0));
        refused("p25", INDEX, () -> x.isDirty(0, -1));
        refused("p26", INDEX, () -> x.cacheAt(6, 8));
        refused("p26", NUMBER, () -> x.cacheAt(0, 8));
        refused("p26", NUMBER, () -> x.cacheAt(0, -1));
        refused("p27", INDEX, () -> x.ownerAt(6, 4, true));
        refused("p27", NUMBER, () -> x.ownerAt(0, 4, true));
        refused("p27", NUMBER, () -> x.ownerAt(0, -1, false));
    }

    private static void p28KeyInOrder() {
        Cachebench x = new Cachebench();
        ask(x, "abcabd");
        due("p28 last use", order(x, 0), "cabd");
        due("p28 fewest", order(x, 1), "cdab");
        due("p28 first in", order(x, 2), "abcd");
        due("p28 queue", order(x, 3), "abcd");
        due("p28 young", order(x, 4), "abcd");
        due("p28 adapting", order(x, 5), "cabd");
        refused("p28", INDEX, () -> x.keyInOrder(6, 9));
        refused("p28", ABSENT, () -> x.keyInOrder(0, 4));
        refused("p28", ABSENT, () -> x.keyInOrder(0, -1));
    }

    private static void p29Victim() {
        Cachebench x = new Cachebench();
        x.setKey(9, 5, 1, 0);
        x.setKey(8, 4, 1, 0);
        due("p29 room", x.victim(0, 0), -1);
        ask(x, "abcda");
        due("p29 held", x.victim(0, 1), -1);
        due("p29 passes by", x.victim(0, 9), -1);
        due("p29 last use", x.victim(0, 8), 1);
        due("p29 fewest", x.victim(1, 8), 1);
        due("p29 first in", x.victim(2, 8), 0);
        due("p29 second chance", x.victim(3, 8), 1);
        due("p29 two queues", x.victim(4, 8), 0);
        due("p29 adapting", x.victim(5, 8), 1);
        due("p29 nothing changes", order(x, 3), "abcd");
        due("p29 nothing changes", x.undo(), 2);
        refused("p29", INDEX, () -> x.victim(6, 0));
        refused("p29", INDEX, () -> x.victim(0, 26));
    }

    private static void p30to33Counts() {
        Cachebench x = with(0, 0, 2, 0, 0);
        x.setKey(5, 3, 10, 0);
        ask(x, "aabca!f");
        int[] counts = {1, 5, 2, 0, 1, 1, 0, 0, 14};
        for (int what = 0; what < counts.length; what++) {
            due("p30 " + what, x.count(0, what), counts[what]);
        }
        due("p31 hits", x.countOf(0, 0, true), 1);
        due("p31 misses", x.countOf(0, 0, false), 2);
        due("p31 passes are misses", x.countOf(0, 5, false), 1);
        due("p32 hit", x.outcome(0, 1), 0);
        due("p32 came in", x.outcome(0, 0), 1);
        due("p32 passed by", x.outcome(0, 5), 2);
        due("p33", x.hitsBetween(0, 0, 5), 1);
        due("p33 one", x.hitsBetween(0, 1, 1), 1);
        due("p33 behind", x.hitsBetween(0, 2, 5), 0);
        x.setCache(0, 0, 2, 0, 0);
        due("p32 none", x.outcome(0, 1), -1);
        due("p33 none", x.hitsBetween(0, 0, 5), 0);
        refused("p30", INDEX, () -> x.count(6, 9));
        refused("p30", NUMBER, () -> x.count(0, 9));
        refused("p30", NUMBER, () -> x.count(0, -1));
        refused("p31", INDEX, () -> x.countOf(6, 0, true));
        refused("p31", INDEX, () -> x.countOf(0, 26, true));
        refused("p32", INDEX, () -> x.outcome(6, 0));
        refused("p32", INDEX, () -> x.outcome(0, 6));
        refused("p32", INDEX, () -> x.outcome(0, -1));
        refused("p33", INDEX, () -> x.hitsBetween(6, 0, 0));
        refused("p33", INDEX, () -> x.hitsBetween(0, 6, 0));
        refused("p33", INDEX, () -> x.hitsBetween(0, 0, 6));
        refused("p33", INDEX, () -> x.hitsBetween(0, 0, -1));
        refused("p33", NUMBER, () -> x.hitsBetween(0, 3, 2));
    }

    private static void p34to36OfOneRule() {
        Cachebench x = with(0, 5, 4, 0, 0);
        x.setKey(2, 8, 1000, 0);
        x.setKey(3, 4, 1000, 0);
        ask(x, "abcd");
        due("p34", x.worth(0, 3), 210840L);
        due("p34 level", x.worth(0, -1), 840L);
        refused("p34", INDEX, () -> x.worth(6, 0));
        refused("p34", INDEX, () -> x.worth(1, 26));
        refused("p34", INDEX, () -> x.worth(1, -2));
        refused("p34 rule", NUMBER, () -> x.worth(1, 9));
        refused("p34 rule", NUMBER, () -> x.worth(1, -1));
        refused("p34 not held", ABSENT, () -> x.worth(0, 0));
        due("p35", x.remembers(4, 0), true);
        due("p35 not", x.remembers(4, 9), false);
        refused("p35", INDEX, () -> x.remembers(6, 0));
        refused("p35", INDEX, () -> x.remembers(0, 26));
        refused("p35 rule", NUMBER, () -> x.remembers(0, 0));
        due("p36", x.leaning(5), 0);
        refused("p36", INDEX, () -> x.leaning(6));
        refused("p36 rule", NUMBER, () -> x.leaning(0));
    }

    private static void p37Distance() {
        Cachebench x = new Cachebench();
        refused("p37 empty", INDEX, () -> x.distance(0));
        ask(x, "aabcbba");
        int[] distances = {-1, 1, -1, -1, 2, 1, 3};
        for (int request = 0; request < distances.length; request++) {
            due("p37 " + request, x.distance(request), distances[request]);
        }
        refused("p37", INDEX, () -> x.distance(7));
        refused("p37", INDEX, () -> x.distance(-1));
    }

    private static void p38to40Sizes() {
        Cachebench x = new Cachebench();
        due("p38 empty", x.hits(-1, 26), 0);
        due("p39 empty", x.holdsAfter(0, 1, 0, 0), false);
        ask(x, "abcdabeabcde");
        due("p38 first in 3", x.hits(2, 3), 3);
        due("p38 first in 4", x.hits(2, 4), 2);
        due("p38 last use 3", x.hits(0, 3), 2);
        due("p38 last use 4", x.hits(0, 4), 4);
        due("p38 fewest 3", x.hits(1, 3), 2);
        due("p38 best 3", x.hits(-1, 3), 5);
        due("p38 best 4", x.hits(-1, 4), 6);
        due("p38 best 26", x.hits(-1, 26), 7);
        due("p40 room", x.bestVictim(3, 2), -1);
        due("p40 latest", x.bestVictim(3, 3), 2);
        due("p40 hit", x.bestVictim(3, 4), -1);
        due("p40 latest", x.bestVictim(3, 6), 3);
        due("p40 asked no more", x.bestVictim(3, 9), 1);
        due("p39 before", x.holdsAfter(-1, 3, 3, 2), true);
        due("p39 behind", x.holdsAfter(-1, 3, 4, 2), false);
        due("p39 behind", x.holdsAfter(-1, 3, 4, 3), true);
        due("p39 first in", x.holdsAfter(2, 3, 4, 0), false);
        due("p39 last use", x.holdsAfter(0, 3, 12, 4), true);
        due("p39 fewest", x.holdsAfter(1, 3, 7, 1), true);
        refused("p38", NUMBER, () -> x.hits(3, 1));
        refused("p38", NUMBER, () -> x.hits(-2, 1));
        refused("p38", NUMBER, () -> x.hits(0, 0));
        refused("p38", NUMBER, () -> x.hits(0, 27));
        refused("p39", INDEX, () -> x.holdsAfter(9, 0, 99, 26));
        refused("p39", NUMBER, () -> x.holdsAfter(3, 1, 0, 0));
        refused("p39", NUMBER, () -> x.holdsAfter(0, 0, 0, 0));
        refused("p39", NUMBER, () -> x.holdsAfter(0, 27, 0, 0));
        refused("p39", NUMBER, () -> x.holdsAfter(0, 1, 13, 0));
        refused("p39", NUMBER, () -> x.holdsAfter(0, 1, -1, 0));
        refused("p40", INDEX, () -> x.bestVictim(0, 12));
        refused("p40", INDEX, () -> x.bestVictim(1, -1));
        refused("p40", NUMBER, () -> x.bestVictim(0, 0));
        refused("p40", NUMBER, () -> x.bestVictim(27, 0));
        Cachebench y = new Cachebench();
        ask(y, "abc");
        due("p40 the greatest of those", y.bestVictim(2, 2), 1);
        Cachebench z = new Cachebench();
        z.setKey(0, 8, 1, 0);
        ask(z, "aaa");
        due("p38 each key counts one", z.hits(0, 1), 2);
    }

    private static void p41to42Phases() {
        Cachebench x = new Cachebench();
        due("p41 empty", x.phases(1), 0);
        refused("p42 empty", INDEX, () -> x.phaseOf(1, 0));
        ask(x, "aabacbbca");
        due("p41 by 1", x.phases(1), 7);
        due("p41 by 2", x.phases(2), 3);
        due("p41 by 3", x.phases(3), 1);
        due("p42", x.phaseOf(2, 0), 0);
        due("p42", x.phaseOf(2, 3), 0);
        due("p42", x.phaseOf(2, 4), 1);
        due("p42", x.phaseOf(2, 7), 1);
        due("p42", x.phaseOf(2, 8), 2);
        refused("p41", NUMBER, () -> x.phases(0));
        refused("p41", NUMBER, () -> x.phases(27));
        refused("p42", INDEX, () -> x.phaseOf(0, 9));
        refused("p42", NUMBER, () -> x.phaseOf(0, 0));
        refused("p42", NUMBER, () -> x.phaseOf(27, 0));
    }

    private static void p43Slack() {
        Cachebench x = new Cachebench();
        due("p43 empty", x.slack(3, 2), 4);
        ask(x, "abcdabeabcde");
        due("p43", x.slack(3, 3), 3 * 7 + 3 - 10);
        due("p43", x.slack(4, 2), 4 * 9 + 3 * 2 - 3 * 8);
        refused("p43", NUMBER, () -> x.slack(0, 1));
        refused("p43", NUMBER, () -> x.slack(27, 1));
        refused("p43", NUMBER, () -> x.slack(3, 0));
        refused("p43", NUMBER, () -> x.slack(3, 4));
    }

    private static void p44to45Shame() {
        Cachebench x = new Cachebench();
        due("p44 Belady's", x.shame(2, 3, 4, 5, 12), 12);
        String row = "";
        for (int place = 0; place < 12; place++) {
            row += (char) ('a' + x.shameAt(place));
        }
        due("p45", row, "abcdabeabcde");
        refused("p45", ABSENT, () -> x.shameAt(12));
        refused("p45", ABSENT, () -> x.shameAt(-1));
        refused("p44", NUMBER, () -> x.shame(3, 3, 4, 5, 10));
        due("p45 kept", x.shameAt(11), 4);
        due("p44 too short", x.shame(2, 3, 4, 5, 11), -1);
        refused("p45 none", ABSENT, () -> x.shameAt(0));
        due("p44 second chance", x.shame(3, 2, 3, 4, 9), 7);
        row = "";
        for (int place = 0; place < 7; place++) {
            row += (char) ('a' + x.shameAt(place));
        }
        due("p45 second chance", row, "aabbcdc");
        due("p44 no change", x.rowLength(), 0);
        refused("p44 no change", STATE, () -> x.undo());
        refused("p44 rule", NUMBER, () -> x.shame(1, 1, 2, 2, 1));
        refused("p44 rule", NUMBER, () -> x.shame(4, 1, 2, 2, 1));
        refused("p44 room", NUMBER, () -> x.shame(2, 0, 2, 2, 1));
        refused("p44 room", NUMBER, () -> x.shame(2, 5, 6, 2, 1));
        refused("p44 greater", NUMBER, () -> x.shame(2, 2, 2, 2, 1));
        refused("p44 greater", NUMBER, () -> x.shame(2, 2, 7, 2, 1));
        refused("p44 keys", NUMBER, () -> x.shame(2, 2, 3, 1, 1));
        refused("p44 keys", NUMBER, () -> x.shame(2, 2, 3, 6, 1));
        refused("p44 most", NUMBER, () -> x.shame(2, 2, 3, 5, 0));
        refused("p44 most", NUMBER, () -> x.shame(2, 2, 3, 5, 13));
    }

    private static void p46to48Measures() {
        Cachebench x = new Cachebench();
        due("p46 none", x.hitShare(0), 0.0);
        due("p47 none", x.meanDistance(), 0.0f);
        due("p48 empty", x.errors(), 0);
        ask(x, "aba");
        due("p46", x.hitShare(0), 1.0 / 3.0);
        due("p47", x.meanDistance(), 2.0f);
        ask(x, "acb");
        due("p47 as a float", x.meanDistance(), 6.0f / 3.0f);
        ask(x, "c");
        due("p47 mean", x.meanDistance(), 8.0f / 4.0f);
        ask(x, "a");
        due("p47 mean", x.meanDistance(), 11.0f / 5.0f);
        refused("p46", INDEX, () -> x.hitShare(6));
        refused("p46", INDEX, () -> x.hitShare(-1));
        for (int keys = 1; keys <= 26; keys += 5) {
            x.clearRow();
            for (int i = 0; i < 6; i++) {
                x.draw(keys * 100 + i, 50, keys, 0);
            }
            due("p48", x.errors(), 0);
        }
    }

    /** No arguments in any state make anything but the promised exceptions come. */
    private static void wildArguments() {
        int[] wild = {Integer.MIN_VALUE, -301, -27, -2, -1, 0, 1, 2, 3, 4, 5, 6, 19, 25, 26, 27, 299, 300, 301, 1000, Integer.MAX_VALUE};
        Cachebench[] benches = {new Cachebench(), longRow(300), with(0, 5, 1, 1, 3)};
        for (Cachebench x : benches) {
            for (int a : wild) {
                for (int b : wild) {
                    Call[] calls = {
                        () -> x.setKey(a, b, b, a), () -> x.draw(b, a, b, a), () -> x.request(a, b > 0), () -> x.pass(a),
                        () -> x.setCache(a, b, b, b, b), () -> x.setShares(a, b, b, a, b), () -> x.flush(a), () -> x.drop(a, b),
                        () -> x.open(a), () -> x.type(a), () -> x.keyAt(a, b), () -> x.requestAt(a, b), () -> x.holds(a, b),
                        () -> x.isDirty(a, b), () -> x.cacheAt(a, b), () -> x.ownerAt(a, b, true), () -> x.keyInOrder(a, b),
                        () -> x.victim(a, b), () -> x.count(a, b), () -> x.countOf(a, b, true), () -> x.outcome(a, b),
                        () -> x.hitsBetween(0, a, b), () -> x.worth(a, b), () -> x.remembers(a, b), () -> x.leaning(a),
                        () -> x.distance(a), () -> x.hits(a, b), () -> x.holdsAfter(a, b, a, b), () -> x.bestVictim(a, b),
                        () -> x.phases(a), () -> x.phaseOf(a, b), () -> x.slack(a, b), () -> x.shame(2, a, b, a, b),
                        () -> x.shameAt(a), () -> x.hitShare(a), () -> x.next(), () -> x.dropTold(), () -> x.run(),
                    };
                    for (int i = 0; i < calls.length; i++) {
                        String got = "fine";
                        try {
                            calls[i].answer();
                        } catch (RuntimeException e) {
                            boolean isThrown = e.getStackTrace()[0].getClassName().startsWith("Cachebench") && e.getMessage() == null;
                            got = isThrown ? got : e.toString();
                        }
                        due("call " + i + " of " + a + ", " + b, got, "fine");
                    }
                }
            }
        }
    }

    public static void main(String[] args) {
        p01NewObject();
        p02SetKey();
        p03Pass();
        p04Request();
        p04Steps();
        p04Fetch();
        p04LastUseFewestFirstIn();
        p04SecondChance();
        p04TwoQueues();
        p04LeastCost();
        p04Adapting();
        p04Shares();
        p05Draw();
        p06Run();
        p07ClearRow();
        p08SetCache();
        p09SetShares();
        p10Flush();
        p11Drop();
        p12Replay();
        p13DropTold();
        p14Undo();
        p15Open();
        p16Next();
        p17Type();
        p18ClearText();
        p19ErrorPlace();
        p20KeyAt();
        p21to23TimeAndRow();
        p24to27Caches();
        p28KeyInOrder();
        p29Victim();
        p30to33Counts();
        p34to36OfOneRule();
        p37Distance();
        p38to40Sizes();
        p41to42Phases();
        p43Slack();
        p44to45Shame();
        p46to48Measures();
        wildArguments();
        end();
    }
}
