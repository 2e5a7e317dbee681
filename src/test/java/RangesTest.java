import java.lang.reflect.InvocationTargetException;
import java.lang.reflect.Method;
import java.util.ArrayList;
import java.util.List;

/**
 * Both ends of every range that the document names, in each call of the face: the least and the greatest number are
 * taken, those beside them and the far ones are refused; of several exceptions the one that is listed first is thrown;
 * and a refused call changes nothing, a question neither.
 */
public final class RangesTest extends Checks {

    private interface Maker {
        Cachebench make();
    }

    /** The numbers that one argument may be, and what is thrown for others. */
    private static final class Range {
        final int least, most;
        final Class<?> thrown;

        Range(int least, int most, Class<?> thrown) {
            this.least = least;
            this.most = most;
            this.thrown = thrown;
        }

        int[] wrongOnes() {
            return new int[] {least - 1, most + 1, LEAST, MOST};
        }
    }

    private static final Range ANY = null;
    private static final Range KEY = new Range(0, 25, INDEX);
    private static final Range CACHE = new Range(0, 5, INDEX);
    private static final Range REQUEST = new Range(0, 11, INDEX);
    private static final Range SIZE = new Range(1, 26, NUMBER);
    private static final Range ROW_RULE = new Range(-1, 2, NUMBER);

    private static Range number(int least, int most) {
        return new Range(least, most, NUMBER);
    }

    private static Range place(int most) {
        return new Range(0, most, ABSENT);
    }

    /** A bench on which there is something of everything: twelve requests, six changes, a text, a cursor, a found row. */
    private static Cachebench rich() {
        Cachebench x = new Cachebench();
        x.setCache(0, Cachebench.LAST_USE, 4, 50, 3);
        x.setCache(2, Cachebench.SECOND_CHANCE, 4, 0, 1);
        x.setCache(3, Cachebench.LEAST_COST, 5, 0, 2);
        fill(x);
        return x;
    }

    /** A like bench whose caches all have one rule. */
    private static Cachebench allBy(int rule) {
        Cachebench x = new Cachebench();
        for (int cache = 0; cache < 6; cache++) {
            x.setCache(cache, rule, 4, 0, 0);
        }
        fill(x);
        return x;
    }

    private static void fill(Cachebench x) {
        x.setKey(2, 2, 7, 1);
        x.setShares(0, 2, 2, 0, 0);
        ask(x, "bc!def!g");
        x.pass(3);
        ask(x, "hb!i");
        x.flush(1);
        ask(x, "gi!i");
        typeAll(x, "2(ab!)");
        x.shame(Cachebench.SECOND_CHANCE, 2, 3, 4, 9);
        x.open(0);
        x.next();
    }

    private static Cachebench full() {
        Cachebench x = longRow(300);
        typeAll(x, "b");
        x.open(0);
        x.next();
        return x;
    }

    private static Cachebench textOf(Cachebench x, String text) {
        return typeAll(x, text);
    }

    /** All that can be seen of a bench: what undo() brings back and how far, the text, the cursor, the found row. */
    private static String all(Maker maker) {
        StringBuilder all = new StringBuilder();
        Cachebench forUndo = maker.make();
        all.append(found(forUndo)).append(' ').append(forUndo.errorPlace()).append('\n').append(picture(forUndo));
        for (Object left = 1; left instanceof Integer;) {
            left = answerOf(() -> forUndo.undo());
            all.append('\n').append(left).append('\n').append(picture(forUndo));
        }
        all.append('\n').append(forUndo.clearText());
        Cachebench forText = maker.make();
        all.append('\n').append(answerOf(() -> forText.run())).append(rowOf(forText));
        Cachebench forCursor = maker.make();
        for (int turn = 0; turn < 8; turn++) {
            all.append(' ').append(answerOf(() -> forCursor.dropTold())).append(' ').append(answerOf(() -> forCursor.next()));
        }
        return all.toString();
    }

    private static Object call(Cachebench x, String name, int... numbers) {
        for (Method method : Cachebench.class.getMethods()) {
            if (!method.getName().equals(name) || method.getParameterCount() != numbers.length) continue;
            Object[] arguments = new Object[numbers.length];
            for (int i = 0; i < numbers.length; i++) {
                arguments[i] = method.getParameterTypes()[i] == boolean.class ? (Object) (numbers[i] != 0) : (Object) numbers[i];
            }
            try {
                return method.invoke(x, arguments);
            } catch (InvocationTargetException e) {
                return e.getCause().getClass();
            } catch (IllegalAccessException e) {
                return e;
            }
        }
        throw new AssertionError("no such call: " + name);
    }

    private static String told(String name, int[] numbers) {
        StringBuilder call = new StringBuilder(name).append('(');
        for (int i = 0; i < numbers.length; i++) call.append(i == 0 ? "" : ", ").append(numbers[i]);
        return call.append(')').toString();
    }

    private static int[] with(int[] numbers, int place, int number) {
        int[] changed = numbers.clone();
        changed[place] = number;
        return changed;
    }

    /** A refused call, and that it changed nothing. */
    private static void refusedAndSame(Maker maker, String before, Class<?> thrown, String name, int... numbers) {
        due(told(name, numbers), call(maker.make(), name, numbers), thrown);
        String behind = all(() -> {
            Cachebench x = maker.make();
            call(x, name, numbers);
            return x;
        });
        due(told(name, numbers) + " changes nothing, which", behind.equals(before), true);
    }

    private static Class<?> firstListed(Class<?> a, Class<?> b) {
        List<Class<?>> order = List.of(INDEX, NUMBER, STATE, ABSENT);
        return order.indexOf(a) <= order.indexOf(b) ? a : b;
    }

    /** The ends of each argument's range beside good others, and each two wrong ones at once. */
    private static void ranges(Maker maker, String name, int[] good, Range... ranges) {
        String before = all(maker);
        due(told(name, good), call(maker.make(), name, good) instanceof Class<?>, false);
        for (int i = 0; i < ranges.length; i++) {
            if (ranges[i] == ANY) continue;
            for (int end : new int[] {ranges[i].least, ranges[i].most}) {
                int[] numbers = with(good, i, end);
                Object got = call(maker.make(), name, numbers);
                boolean isTaken = !(got instanceof Class<?>) || got == ABSENT && ranges[i].thrown != ABSENT;
                due(told(name, numbers) + " is taken, which", isTaken, true);
            }
            for (int wrong : ranges[i].wrongOnes()) {
                refusedAndSame(maker, before, ranges[i].thrown, name, with(good, i, wrong));
            }
            for (int j = i + 1; j < ranges.length; j++) {
                if (ranges[j] != ANY && ranges[j].thrown != ranges[i].thrown) twoWrong(maker, name, good, i, ranges[i], j, ranges[j]);
            }
        }
    }

    private static void twoWrong(Maker maker, String name, int[] good, int i, Range first, int j, Range second) {
        for (int wrong : first.wrongOnes()) {
            for (int other : second.wrongOnes()) {
                int[] numbers = with(with(good, i, wrong), j, other);
                due(told(name, numbers), call(maker.make(), name, numbers), firstListed(first.thrown, second.thrown));
            }
        }
    }

    static void rangesOfChanges() {
        Maker m = () -> rich();
        ranges(m, "setKey", new int[] {20, 3, 5, 2}, KEY, number(1, 8), number(0, 1000), number(0, 3));
        ranges(m, "pass", new int[] {5}, number(1, 1000));
        ranges(m, "request", new int[] {3, 1}, KEY, ANY);
        ranges(m, "draw", new int[] {77, 9, 5, 50}, ANY, number(1, 50), number(1, 26), number(0, 100));
        ranges(m, "setCache", new int[] {2, 5, 7, 3, 1}, CACHE, number(0, 6), number(1, 20), number(0, 1000), number(0, 3));
        ranges(m, "setShares", new int[] {0, 1, 1, 1, 1}, CACHE, number(0, 1), number(0, 1), number(0, 1), number(0, 1));
        ranges(m, "setShares", new int[] {0, 0, 0, 0, 0}, CACHE, number(0, 4), number(0, 4), number(0, 4), number(0, 4));
        ranges(m, "flush", new int[] {0}, CACHE);
        ranges(m, "drop", new int[] {0, 8}, CACHE, KEY);
        ranges(m, "open", new int[] {1}, CACHE);
        ranges(m, "type", new int[] {97}, number(0, 255));
    }

    static void rangesOfKeysAndRow() {
        Maker m = () -> rich();
        ranges(m, "keyAt", new int[] {2, 1}, KEY, number(0, 3));
        ranges(m, "requestAt", new int[] {2, 1}, REQUEST, number(0, 2));
        ranges(m, "distance", new int[] {2}, REQUEST);
        ranges(m, "hits", new int[] {0, 3}, ROW_RULE, SIZE);
        ranges(m, "holdsAfter", new int[] {0, 3, 5, 1}, ROW_RULE, SIZE, number(0, 12), KEY);
        ranges(m, "bestVictim", new int[] {3, 5}, SIZE, REQUEST);
        ranges(m, "phases", new int[] {3}, SIZE);
        ranges(m, "phaseOf", new int[] {3, 5}, SIZE, REQUEST);
        ranges(m, "slack", new int[] {26, 1}, SIZE, number(1, 26));
        ranges(m, "slack", new int[] {3, 2}, number(2, 26), number(1, 3));
        ranges(m, "shame", new int[] {2, 1, 6, 3, 5}, number(2, 3), number(1, 4), number(2, 6), number(2, 5), number(1, 12));
        ranges(m, "shame", new int[] {3, 4, 5, 3, 5}, number(2, 3), number(1, 4), number(5, 6), number(2, 5), number(1, 9));
        ranges(m, "shameAt", new int[] {3}, place(6));
    }

    static void rangesOfCaches() {
        Maker m = () -> rich();
        ranges(m, "holds", new int[] {0, 3}, CACHE, KEY);
        ranges(m, "isDirty", new int[] {0, 3}, CACHE, KEY);
        ranges(m, "cacheAt", new int[] {0, 3}, CACHE, number(0, 7));
        ranges(m, "ownerAt", new int[] {0, 1, 1}, CACHE, number(0, 3), ANY);
        ranges(m, "ownerAt", new int[] {0, 1, 0}, CACHE, number(0, 3), ANY);
        ranges(m, "keyInOrder", new int[] {0, 1}, CACHE, place(2));
        ranges(m, "victim", new int[] {0, 3}, CACHE, KEY);
        ranges(m, "count", new int[] {0, 3}, CACHE, number(0, 8));
        ranges(m, "countOf", new int[] {0, 3, 1}, CACHE, KEY, ANY);
        ranges(m, "outcome", new int[] {0, 3}, CACHE, REQUEST);
        ranges(m, "hitsBetween", new int[] {0, 0, 11}, CACHE, REQUEST, REQUEST);
        ranges(m, "hitShare", new int[] {0}, CACHE);
        ranges(() -> allBy(5), "worth", new int[] {0, 8}, CACHE, new Range(-1, 25, INDEX));
        ranges(() -> allBy(4), "remembers", new int[] {0, 8}, CACHE, KEY);
        ranges(() -> allBy(6), "leaning", new int[] {0}, CACHE);
    }

    /** Arguments that are wrong only beside others, and sums that go round. */
    static void rangesThatHangTogether() {
        Maker m = () -> rich();
        String before = all(m);
        refusedAndSame(m, before, NUMBER, "hitsBetween", 0, 1, 0);
        refusedAndSame(m, before, NUMBER, "hitsBetween", 5, 11, 10);
        refusedAndSame(m, before, INDEX, "hitsBetween", 6, 1, 0);
        refusedAndSame(m, before, INDEX, "hitsBetween", 0, 12, 11);
        refusedAndSame(m, before, INDEX, "hitsBetween", 0, 11, -1);
        refusedAndSame(m, before, NUMBER, "setShares", 0, 4, 1, 0, 0);
        refusedAndSame(m, before, NUMBER, "setShares", 0, 0, 0, 1, 4);
        refusedAndSame(m, before, NUMBER, "setShares", 0, 5, -1, 0, 0);
        refusedAndSame(m, before, NUMBER, "setShares", 0, MOST, MOST, 2, 0);
        refusedAndSame(m, before, NUMBER, "setShares", 0, 1 << 30, 1 << 30, 1 << 30, 1 << 30);
        refusedAndSame(m, before, NUMBER, "setShares", 0, LEAST, LEAST, 1, 1);
        refusedAndSame(m, before, NUMBER, "slack", 3, 4);
        refusedAndSame(m, before, NUMBER, "slack", 1, 2);
        refusedAndSame(m, before, NUMBER, "shame", 2, 1, 1, 3, 5);
        refusedAndSame(m, before, NUMBER, "shame", 2, 4, 4, 3, 5);
        refusedAndSame(m, before, NUMBER, "shame", 2, MOST, LEAST, 3, 5);
        refusedAndSame(m, before, NUMBER, "shame", 3, 2, 3, 3, 10);
    }

    static void refusedByTheRule() {
        for (int rule = 0; rule <= 6; rule++) {
            int by = rule;
            Maker m = () -> allBy(by);
            String before = all(m);
            if (rule != 5) refusedAndSame(m, before, NUMBER, "worth", 0, 8);
            if (rule != 5) refusedAndSame(m, before, NUMBER, "worth", 0, -1);
            if (rule != 5) refusedAndSame(m, before, NUMBER, "worth", 0, 0);
            if (rule != 5) refusedAndSame(m, before, INDEX, "worth", 0, 26);
            if (rule != 5) refusedAndSame(m, before, INDEX, "worth", 0, -2);
            if (rule != 5) refusedAndSame(m, before, INDEX, "worth", 6, 0);
            if (rule == 5) refusedAndSame(m, before, ABSENT, "worth", 0, 0);
            if (rule != 4) refusedAndSame(m, before, NUMBER, "remembers", 5, 8);
            if (rule != 4) refusedAndSame(m, before, INDEX, "remembers", 5, 26);
            if (rule != 4) refusedAndSame(m, before, INDEX, "remembers", -1, 8);
            if (rule != 6) refusedAndSame(m, before, NUMBER, "leaning", 3);
            if (rule != 6) refusedAndSame(m, before, INDEX, "leaning", 6);
        }
    }

    static void refusedByTheState() {
        Maker m = () -> rich();
        String before = all(m);
        refusedAndSame(m, before, STATE, "setKey", 8, 1, 1, 0);
        refusedAndSame(m, before, NUMBER, "setKey", 8, 9, 1, 0);
        refusedAndSame(m, before, ABSENT, "drop", 0, 0);
        refusedAndSame(m, before, ABSENT, "drop", 5, 25);
        refusedAndSame(m, before, INDEX, "drop", 6, 0);
        refusedAndSame(m, before, INDEX, "drop", 0, 26);
        refusedAndSame(m, before, ABSENT, "keyInOrder", 1, 4);
        Maker filled = () -> full();
        before = all(filled);
        refusedAndSame(filled, before, STATE, "request", 0, 0);
        refusedAndSame(filled, before, INDEX, "request", 26, 0);
        refusedAndSame(filled, before, INDEX, "request", -1, 0);
        refusedAndSame(filled, before, STATE, "draw", 1, 1, 1, 0);
        refusedAndSame(filled, before, STATE, "draw", 1, 50, 26, 100);
        refusedAndSame(filled, before, NUMBER, "draw", 1, 51, 1, 0);
        refusedAndSame(filled, before, NUMBER, "draw", 1, 1, 27, 0);
        refusedAndSame(filled, before, NUMBER, "draw", 1, 1, 1, 101);
        refusedAndSame(filled, before, STATE, "run");
        Maker none = () -> new Cachebench();
        before = all(none);
        refusedAndSame(none, before, STATE, "undo");
        refusedAndSame(none, before, STATE, "next");
        refusedAndSame(none, before, STATE, "dropTold");
        refusedAndSame(none, before, ABSENT, "shameAt", 0);
        refusedAndSame(none, before, ABSENT, "keyInOrder", 0, 0);
        refusedAndSame(none, before, INDEX, "requestAt", 0, 0);
        refusedAndSame(none, before, INDEX, "outcome", 0, 0);
        refusedAndSame(none, before, INDEX, "hitsBetween", 0, 0, 0);
        refusedAndSame(none, before, INDEX, "distance", 0);
        refusedAndSame(none, before, INDEX, "bestVictim", 1, 0);
        refusedAndSame(none, before, INDEX, "phaseOf", 1, 0);
        refusedAndSame(none, before, NUMBER, "holdsAfter", 0, 1, 1, 0);
    }

    static void refusedByTheText() {
        Maker wrong = () -> textOf(rich(), "a!!");
        refusedAndSame(wrong, all(wrong), NUMBER, "run");
        Maker early = () -> textOf(rich(), "3(a");
        refusedAndSame(early, all(early), NUMBER, "run");
        Maker both = () -> textOf(full(), "50(50(a)) 0");
        refusedAndSame(both, all(both), NUMBER, "run");
        Maker tooMany = () -> textOf(rich(), "12(8(cba))c");
        refusedAndSame(tooMany, all(tooMany), STATE, "run");
        Maker farTooMany = () -> textOf(rich(), "50(50(50(abcdefghijklmnopqrstuvwxyz)))");
        refusedAndSame(farTooMany, all(farTooMany), STATE, "run");
        Maker longest = () -> textOf(rich(), "a".repeat(200));
        String before = all(longest);
        refusedAndSame(longest, before, STATE, "type", 97);
        refusedAndSame(longest, before, NUMBER, "type", 256);
        refusedAndSame(longest, before, NUMBER, "type", -1);
    }

    static void refusedByTheCursor() {
        Maker noneTold = () -> {
            Cachebench x = rich();
            x.open(4);
            return x;
        };
        refusedAndSame(noneTold, all(noneTold), STATE, "dropTold");
        Maker takenOut = () -> {
            Cachebench x = rich();
            x.dropTold();
            return x;
        };
        refusedAndSame(takenOut, all(takenOut), STATE, "dropTold");
        Maker atEnd = () -> {
            Cachebench x = rich();
            x.next();
            x.next();
            return x;
        };
        refusedAndSame(atEnd, all(atEnd), ABSENT, "next");
        Maker closed = () -> {
            Cachebench x = rich();
            x.pass(1);
            return x;
        };
        String before = all(closed);
        refusedAndSame(closed, before, STATE, "next");
        refusedAndSame(closed, before, STATE, "dropTold");
    }

    /** The calls that are no changes leave all as it is, but for the text, the cursor and the row that they are about. */
    static void questionsChangeNothing() {
        Maker m = () -> rich();
        String before = all(m);
        List<String> questions = new ArrayList<>(List.of("errorPlace", "now", "rowLength", "keyAt 2 3", "requestAt 3 2",
            "holds 0 8", "isDirty 0 8", "cacheAt 0 6", "ownerAt 0 1 1", "keyInOrder 2 3", "count 0 8", "countOf 0 8 1", "outcome 0 3",
            "hitsBetween 0 0 11", "worth 3 8", "worth 3 -1", "remembers 4 1", "leaning 5", "distance 3", "hits -1 4", "hits 1 4",
            "holdsAfter -1 3 5 4", "bestVictim 3 7", "phases 3", "phaseOf 3 7", "slack 4 3", "shameAt 2", "hitShare 0",
            "meanDistance", "errors"));
        for (int cache = 0; cache < 6; cache++) questions.add("victim " + cache + " 0");
        for (String question : questions) {
            String[] words = question.split(" ");
            int[] numbers = new int[words.length - 1];
            for (int i = 0; i < numbers.length; i++) numbers[i] = Integer.parseInt(words[i + 1]);
            String behind = all(() -> {
                Cachebench x = rich();
                due(question + " is refused, which", call(x, words[0], numbers) instanceof Class<?>, false);
                return x;
            });
            due(question + " changes nothing, which", behind.equals(before), true);
        }
        for (String name : List.of("open 1", "type 97", "shame 2 1 2 2 3")) {
            String[] words = name.split(" ");
            Cachebench x = rich();
            String picture = picture(x);
            if (words.length == 2) call(x, words[0], Integer.parseInt(words[1]));
            else x.shame(2, 1, 2, 2, 3);
            due(name + " changes no cache, which", picture(x).equals(picture), true);
            due(name + " is no change, so that", x.undo(), 5);
        }
    }

    public static void main(String[] args) {
        runAll(RangesTest.class);
    }
}
