/** Section 7 of the document and the promises 13 to 16: changes, what undoes them, and the cursor, sentence by sentence. */
public final class UndoEdgesTest extends Checks {

    /** A bench on which each of the changes can be made. */
    private static Cachebench ready() {
        Cachebench x = new Cachebench();
        x.setCache(0, Cachebench.LEAST_COST, 4, 3, 3);
        x.setShares(4, 1, 2, 1, 0);
        ask(x, "a!bcdef!ba");
        x.pass(2);
        ask(x, "gb!hac!");
        x.drop(1, x.keyInOrder(1, 0));
        typeAll(x, "2(ab!)z");
        return x;
    }

    /** The changes, in the order of the face; dropTold with the cursor that it needs. */
    private static final Question[] CHANGES = {
        x -> x.setKey(25, 3, 4, 1), x -> x.pass(7), x -> x.request(3, true), x -> x.draw(5, 20, 9, 40), x -> x.run(),
        x -> x.clearRow(), x -> x.setCache(3, 5, 3, 2, 1), x -> x.setShares(0, 0, 1, 2, 1), x -> x.flush(0),
        x -> x.drop(0, x.keyInOrder(0, 0)), x -> x.replay(), x -> dropFirst(x, 0),
    };

    /** Changes by which nothing is different. */
    private static final Question[] IDLE = {
        x -> x.setKey(25, 1, 1, 0), x -> x.clearRow(), x -> x.setCache(5, 6, 4, 0, 0), x -> x.setShares(0, 0, 0, 0, 0),
        x -> x.flush(0), x -> x.replay(), x -> x.run(),
    };

    private static Object dropFirst(Cachebench x, int cache) {
        x.open(cache);
        x.next();
        return x.dropTold();
    }

    // ---- how many

    /** The latest 6 changes can be undone. */
    static void sixChanges() {
        Cachebench x = new Cachebench();
        for (int changes = 1; changes <= 6; changes++) x.pass(1);
        for (int left = 5; left >= 0; left--) {
            due("changes left", x.undo(), left);
            due("the time", x.now(), left);
        }
        refused("none left", STATE, () -> x.undo());
        due("the time", x.now(), 0);
    }

    static void sevenChanges() {
        Cachebench x = new Cachebench();
        for (int changes = 1; changes <= 7; changes++) x.pass(1);
        for (int left = 5; left >= 0; left--) {
            due("changes left", x.undo(), left);
            due("the time", x.now(), left + 1);
        }
        refused("the first of seven", STATE, () -> x.undo());
        due("the time", x.now(), 1);
    }

    static void fewerChanges() {
        Cachebench x = new Cachebench();
        refused("none at first", STATE, () -> x.undo());
        x.pass(1);
        due("one", x.undo(), 0);
        refused("none any more", STATE, () -> x.undo());
        x.pass(1);
        x.pass(1);
        due("two", x.undo(), 1);
        due("one", x.undo(), 0);
        due("the time", x.now(), 0);
    }

    static void manyChanges() {
        Cachebench x = new Cachebench();
        for (int changes = 1; changes <= 100; changes++) {
            x.pass(1);
            if (changes % 10 == 0) due("undone in between", x.undo() + " " + x.now(), "5 " + (changes - changes / 10));
        }
        due("the time", x.now(), 90);
        for (int left = 4; left >= 0; left--) due("changes left", x.undo(), left);
        refused("none left", STATE, () -> x.undo());
        due("the time", x.now(), 85);
    }

    /** An object is used for at most 512 calls: it does as many. */
    static void asManyCallsAsAnObjectIsUsedFor() {
        Cachebench x = new Cachebench();
        for (int calls = 1; calls <= 505; calls++) x.pass(1000);
        for (int left = 5; left >= 0; left--) due("changes left", x.undo(), left);
        due("the time", x.now(), 499000);
    }

    /** Undoes the latest change that was not undone. */
    static void undoGoesFurtherBack() {
        Cachebench x = new Cachebench();
        x.pass(1);
        x.pass(10);
        x.pass(100);
        due("the latest", x.undo() + " " + x.now(), "2 11");
        due("the one ahead of it", x.undo() + " " + x.now(), "1 1");
        x.pass(1000);
        due("a change behind that", x.undo() + " " + x.now(), "1 1");
        due("the first", x.undo() + " " + x.now(), "0 0");
    }

    static void changesBehindAnUndoFillItUpAgain() {
        Cachebench x = new Cachebench();
        for (int changes = 1; changes <= 6; changes++) x.pass(1);
        x.undo();
        x.undo();
        x.pass(10);
        x.pass(10);
        x.pass(10);
        for (int left = 5; left >= 0; left--) due("changes left", x.undo(), left);
        due("the time", x.now(), 1);
        refused("none left", STATE, () -> x.undo());
    }

    /** Each of the calls under "Changes" is one change, and all of it is then as it was ahead of it. */
    static void eachChangeIsUndone() {
        String before = picture(ready());
        for (int i = 0; i < CHANGES.length; i++) {
            Cachebench x = ready();
            due("the change " + i + " is refused, which", answerOf(new Made(x, CHANGES[i])) instanceof Class<?>, false);
            due("the change " + i + " makes a difference, which", picture(x).equals(before), false);
            x.undo();
            due("the change " + i + " is undone, which", picture(x).equals(before), true);
        }
    }

    /** A call, as a question to one bench. */
    private static final class Made implements Call {
        private final Cachebench x;
        private final Question change;

        Made(Cachebench x, Question change) {
            this.x = x;
            this.change = change;
        }

        @Override
        public Object answer() {
            return change.of(x);
        }
    }

    /** They are changes, even if nothing is different afterwards. */
    static void changesByWhichNothingIsDifferent() {
        for (int i = 0; i < IDLE.length; i++) {
            Cachebench x = new Cachebench();
            String before = picture(x);
            IDLE[i].of(x);
            due("the change " + i + " makes no difference, which", picture(x).equals(before), true);
            due("the change " + i + " can be undone", answerOf(() -> x.undo()), 0);
            refused("it was one", STATE, () -> x.undo());
        }
    }

    /** A call that throws an exception changes nothing: it is no change. */
    static void refusedCallsAreNoChanges() {
        Cachebench x = new Cachebench();
        answerOf(() -> x.setKey(26, 1, 1, 1));
        answerOf(() -> x.pass(0));
        answerOf(() -> x.request(26, true));
        answerOf(() -> x.draw(1, 0, 1, 1));
        typeAll(x, "!");
        answerOf(() -> x.run());
        answerOf(() -> x.setCache(0, 7, 1, 1, 1));
        answerOf(() -> x.setShares(0, 5, 0, 0, 0));
        answerOf(() -> x.flush(6));
        answerOf(() -> x.drop(0, 0));
        answerOf(() -> x.dropTold());
        refused("no change", STATE, () -> x.undo());
    }

    // ---- what is brought back

    /** All six changes at once, of each kind: each step back is as it was. */
    static void stepsBack() {
        for (int first = 0; first < CHANGES.length; first++) {
            Cachebench x = ready();
            String[] pictures = new String[6];
            for (int i = 0; i < 6; i++) {
                pictures[i] = picture(x);
                Question change = CHANGES[(first + 5 * i) % CHANGES.length];
                if (answerOf(new Made(x, change)) instanceof Class<?>) x.pass(1);
            }
            for (int i = 5; i >= 0; i--) {
                due("changes left, from " + first, x.undo(), i);
                due("as it was ahead of the change " + i + ", which", picture(x).equals(pictures[i]), true);
            }
        }
    }

    /** The caches with all that they hold, remember and have counted: they go on as if nothing had been. */
    static void cachesGoOnAsIfNothingHadBeen() {
        for (int rule = 0; rule <= 6; rule++) {
            for (int mode = 0; mode <= 3; mode++) {
                String[] pictures = new String[2];
                for (int turn = 0; turn < 2; turn++) {
                    Cachebench x = new Cachebench();
                    for (int cache = 0; cache < 6; cache++) x.setCache(cache, rule, 2 + cache, cache < 3 ? 0 : 5, mode);
                    x.setShares(1, 1, 1, 0, 0);
                    x.setKey(4, 2, 9, 1);
                    ask(x, "abca!bdeeaf!bacedg");
                    if (turn == 1) {
                        x.pass(3);
                        ask(x, "zyxa!bb!aacdefghij");
                        dropFirst(x, 2);
                        x.clearRow();
                        ask(x, "gfedcba");
                        x.replay();
                        for (int changes = 0; changes < 6; changes++) x.undo();
                    }
                    ask(x, "bedacg!fa");
                    x.pass(4);
                    ask(x, "hagbdc");
                    pictures[turn] = picture(x);
                }
                due("rule " + rule + ", mode " + mode + ", go on alike, which", pictures[0].equals(pictures[1]), true);
            }
        }
    }

    /** The minute at which a key came in or was last written. */
    static void minutesAreBroughtBack() {
        Cachebench x = with(0, 0, 1, 10, 0);
        ask(x, "a");
        x.pass(5);
        ask(x, "a!");
        x.undo();
        due("not written at 5: at 9", x.pass(4), 0);
        due("at 10", x.pass(1), 1);
        x.undo();
        x.undo();
        ask(x, "ba");
        x.undo();
        due("it did not come in anew at 5: at 9", x.pass(4), 0);
        due("at 10", x.pass(1), 1);
    }

    /** The first hit on a key that was fetched is useful, also when it was made before and undone. */
    static void fetchedKeysAreBroughtBack() {
        Cachebench x = with(0, 0, 2, 0, 2);
        ask(x, "abca");
        ask(x, "b");
        due("useful", x.count(0, 7), 1);
        x.undo();
        due("not yet", x.count(0, 7), 0);
        ask(x, "b");
        due("useful again", x.count(0, 7), 1);
        x.undo();
        x.undo();
        ask(x, "bb");
        due("b was not fetched then", x.count(0, 6) + " " + x.count(0, 7), "0 0");
    }

    static void aFullRowIsBroughtBack() {
        Cachebench x = new Cachebench();
        for (int seed = 1; seed <= 6; seed++) x.draw(seed, 50, 26, 50);
        String row = rowOf(x);
        x.clearRow();
        x.request(7, false);
        x.undo();
        x.undo();
        due("all 300", rowOf(x), row);
        due("five are left", x.undo(), 3);
        due("250", rowOf(x), row.substring(0, rowOf(x).length()));
        due("length", x.rowLength(), 250);
    }

    /** The text and the row that was found are not brought back. */
    static void textAndFoundRowStay() {
        Cachebench x = new Cachebench();
        x.pass(1);
        typeAll(x, "ab");
        x.shame(3, 2, 3, 4, 9);
        x.undo();
        due("the text", x.clearText(), 2);
        due("the row", found(x), "aabbcdc");
        x.pass(1);
        x.shame(3, 2, 3, 4, 6);
        x.undo();
        due("no row", found(x), "");
        ask(x, "a");
        x.clearText();
        x.undo();
        due("no text", x.clearText(), 0);
    }

    /** Undo closes the cursor, and doesn't bring it back. */
    static void undoClosesTheCursor() {
        Cachebench x = new Cachebench();
        ask(x, "ab");
        x.open(0);
        x.next();
        x.dropTold();
        x.undo();
        refused("closed", STATE, () -> x.next());
        refused("closed", STATE, () -> x.dropTold());
        x.open(0);
        due("all keys", x.next() + " " + x.next(), "0 1");
        Cachebench y = new Cachebench();
        y.open(0);
        refused("none to undo", STATE, () -> y.undo());
        refused("so it is open", ABSENT, () -> y.next());
    }

    // ---- the cursor

    /** If the cursor is closed: at first. */
    static void noCursorAtFirst() {
        Cachebench x = new Cachebench();
        refused("next", STATE, () -> x.next());
        refused("dropTold", STATE, () -> x.dropTold());
        ask(x, "a");
        refused("next", STATE, () -> x.next());
        refused("dropTold", STATE, () -> x.dropTold());
    }

    static void aCursorOnAnEmptyCache() {
        Cachebench x = new Cachebench();
        due("none", x.open(5), 0);
        refused("none any more", ABSENT, () -> x.next());
        refused("none any more", ABSENT, () -> x.next());
        refused("told none", STATE, () -> x.dropTold());
    }

    static void aCursorOnAFullCache() {
        Cachebench x = with(0, 0, 20, 0, 0);
        ask(x, "tsrqponmlkjihgfedcba");
        due("20", x.open(0), 20);
        for (int key = 19; key >= 0; key--) due("in order", x.next(), key);
        refused("none any more", ABSENT, () -> x.next());
        refused("none any more", ABSENT, () -> x.next());
        due("the last told goes still", x.dropTold(), 0);
        refused("not twice", STATE, () -> x.dropTold());
        refused("none any more", ABSENT, () -> x.next());
    }

    /** In its order, by each rule. */
    static void aCursorByEachRule() {
        for (int rule = 0; rule <= 6; rule++) {
            Cachebench x = with(0, rule, 4, 0, 0);
            x.setKey(1, 1, 9, 0);
            ask(x, "bacdbedaac");
            String order = order(x, 0);
            StringBuilder told = new StringBuilder();
            for (int left = x.open(0); left > 0; left--) told.append((char) ('a' + x.next()));
            due("rule " + rule, told.toString(), order);
        }
    }

    /** Opens the cursor, in place of where it was. */
    static void openedInPlace() {
        Cachebench x = new Cachebench();
        ask(x, "abca");
        x.open(0);
        x.next();
        x.next();
        due("opened anew", x.open(0), 3);
        refused("told none", STATE, () -> x.dropTold());
        due("the first again", x.next(), 1);
        due("another cache", x.open(2), 3);
        refused("told none", STATE, () -> x.dropTold());
        due("its first", x.next(), 0);
        due("it goes there", x.dropTold(), 0);
        due("there alone", x.holds(2, 0) + " " + x.holds(0, 0), "false true");
        refused("refused", INDEX, () -> x.open(6));
        due("so it is open where it was", x.next(), 1);
    }

    /** Each change but dropTold() closes it. */
    static void changesCloseTheCursor() {
        for (int i = 0; i < CHANGES.length - 1; i++) {
            Cachebench x = ready();
            x.open(4);
            x.next();
            CHANGES[i].of(x);
            refused("next behind the change " + i, STATE, () -> x.next());
            refused("dropTold behind the change " + i, STATE, () -> x.dropTold());
        }
        for (int i = 0; i < IDLE.length; i++) {
            Cachebench x = new Cachebench();
            x.open(0);
            IDLE[i].of(x);
            refused("next behind the idle change " + i, STATE, () -> x.next());
        }
    }

    static void otherCallsLeaveTheCursor() {
        Cachebench x = ready();
        ask(x, "abcd");
        x.open(0);
        int first = x.next();
        typeAll(x, "a!!");
        x.errorPlace();
        x.shame(2, 1, 2, 2, 3);
        answerOf(() -> x.run());
        answerOf(() -> x.pass(1001));
        answerOf(() -> x.setCache(0, 0, 0, 0, 0));
        answerOf(() -> x.drop(0, 25));
        x.victim(0, 25);
        x.hits(0, 3);
        due("it is open, and told the first last", x.dropTold(), first);
    }

    /** DropTold: the cursor stays open; a change. */
    static void dropToldLeavesTheCursorOpen() {
        Cachebench x = with(0, 0, 4, 0, 1);
        ask(x, "ab!cd");
        x.open(0);
        x.next();
        due("the first", x.dropTold(), 0);
        due("the next", x.next(), 1);
        due("the one behind it", x.next(), 2);
        due("goes", x.dropTold(), 2);
        due("the last", x.next(), 3);
        due("what is held", order(x, 0), "bd");
        refused("none any more", ABSENT, () -> x.next());
        due("the last goes", x.dropTold(), 3);
        due("no writing", x.count(0, 4), 0);
        due("three changes ahead of the undone one", x.undo(), 4);
        due("undone", order(x, 0), "bd");
        x.undo();
        due("undone", order(x, 0), "bcd");
        x.undo();
        due("undone", order(x, 0), "abcd");
    }

    /** Told no key yet, or the key that it told last was taken out by this call. */
    static void dropToldWithoutAKey() {
        Cachebench x = new Cachebench();
        ask(x, "abc");
        x.open(0);
        refused("told none yet", STATE, () -> x.dropTold());
        x.next();
        x.dropTold();
        refused("taken out", STATE, () -> x.dropTold());
        refused("taken out still", STATE, () -> x.dropTold());
        due("one change", x.undo(), 1);
    }

    /** As drop() does: a writing, if it was dirty; not put out, not remembered. */
    static void dropToldAsDropDoes() {
        for (int rule = 0; rule <= 6; rule++) {
            Cachebench x = with(0, rule, 4, 0, 1);
            Cachebench y = with(0, rule, 4, 0, 1);
            ask(x, "a!bc!db");
            ask(y, "a!bc!db");
            dropFirst(x, 0);
            y.drop(0, y.keyInOrder(0, 0));
            due("rule " + rule + ", alike, which", picture(x).equals(picture(y)), true);
        }
    }

    public static void main(String[] args) {
        runAll(UndoEdgesTest.class);
    }
}
