/** What the tests of the project have in common: an answer that is due, and a bench that is told in a few words. */
public abstract class Checks {

    interface Call {
        Object answer();
    }

    interface Question {
        Object of(Cachebench x);
    }

    static final Class<?> INDEX = IndexOutOfBoundsException.class;
    static final Class<?> NUMBER = IllegalArgumentException.class;
    static final Class<?> STATE = IllegalStateException.class;
    static final Class<?> ABSENT = java.util.NoSuchElementException.class;
    static final int LEAST = Integer.MIN_VALUE, MOST = Integer.MAX_VALUE;

    private static int wrong;

    static void due(String what, Object got, Object want) {
        if (!got.equals(want)) {
            wrong++;
            System.out.println(what + " answered " + got + ", due is " + want);
        }
    }

    /** What a call answers, or the class of the exception that it throws. */
    static Object answerOf(Call call) {
        try {
            return call.answer();
        } catch (RuntimeException e) {
            return e.getClass();
        }
    }

    static void refused(String what, Class<?> want, Call call) {
        due(what, answerOf(call), want);
    }

    /** The keys of a cache by its order, as letters. */
    static String order(Cachebench x, int cache) {
        StringBuilder all = new StringBuilder();
        for (int place = 0; place < x.cacheAt(cache, 4); place++) {
            all.append((char) ('a' + x.keyInOrder(cache, place)));
        }
        return all.toString();
    }

    static Cachebench typeAll(Cachebench x, String text) {
        x.clearText();
        for (char c : text.toCharArray()) {
            x.type(c);
        }
        return x;
    }

    /** Makes the requests that a text tells. */
    static int ask(Cachebench x, String text) {
        return typeAll(x, text).run();
    }

    static int errorOf(String text) {
        return typeAll(new Cachebench(), text).errorPlace();
    }

    static Cachebench with(int cache, int rule, int room, int lapse, int mode) {
        Cachebench x = new Cachebench();
        x.setCache(cache, rule, room, lapse, mode);
        return x;
    }

    /** A row of n requests for the key 0. */
    static Cachebench longRow(int n) {
        Cachebench x = new Cachebench();
        for (int left = n; left > 0; left -= Math.min(left, 50)) {
            x.draw(1, Math.min(left, 50), 1, 0);
        }
        return x;
    }

    /** The row, as the text would tell it. */
    static String rowOf(Cachebench x) {
        StringBuilder row = new StringBuilder();
        for (int request = 0; request < x.rowLength(); request++) {
            row.append((char) ('a' + x.requestAt(request, 0))).append(x.requestAt(request, 1) == 1 ? "!" : "");
        }
        return row.toString();
    }

    /** The row that was found by shame(), as letters. */
    static String found(Cachebench x) {
        StringBuilder row = new StringBuilder();
        for (int place = 0; answerOf(placeOf(x, place)) instanceof Integer; place++) {
            row.append((char) ('a' + x.shameAt(place)));
        }
        return row.toString();
    }

    private static Call placeOf(Cachebench x, int place) {
        return () -> x.shameAt(place);
    }

    /** The keys of a set that a question tells, as letters. */
    static String keysWhere(Cachebench x, java.util.function.IntPredicate isIn) {
        StringBuilder keys = new StringBuilder();
        for (int key = 0; key < 26; key++) {
            keys.append(isIn.test(key) ? String.valueOf((char) ('a' + key)) : "");
        }
        return keys.toString();
    }

    /** All that can be seen of what undo() brings back. */
    static String picture(Cachebench x) {
        StringBuilder all = new StringBuilder().append(x.now()).append(' ').append(x.rowLength());
        for (int request = 0; request < x.rowLength(); request++) {
            for (int what = 0; what < 3; what++) all.append(' ').append(x.requestAt(request, what));
        }
        for (int key = 0; key < 26; key++) {
            all.append('\n');
            for (int what = 0; what < 4; what++) all.append(' ').append(x.keyAt(key, what));
        }
        for (int cache = 0; cache < 6; cache++) {
            all.append('\n').append(order(x, cache));
            for (int what = 0; what < 9; what++) all.append(' ').append(x.count(cache, what));
            for (int what = 0; what < 8; what++) all.append(' ').append(x.cacheAt(cache, what));
            for (int owner = 0; owner < 4; owner++) {
                all.append(' ').append(x.ownerAt(cache, owner, true)).append(' ').append(x.ownerAt(cache, owner, false));
            }
            for (int key = 0; key < 26; key++) {
                all.append(' ').append(x.isDirty(cache, key)).append(x.countOf(cache, key, true));
                all.append(x.countOf(cache, key, false)).append(' ').append(x.victim(cache, key));
            }
            for (int request = 0; request < x.rowLength(); request++) all.append(x.outcome(cache, request));
            pictureByRule(x, cache, all);
        }
        return all.toString();
    }

    private static void pictureByRule(Cachebench x, int cache, StringBuilder all) {
        int rule = x.cacheAt(cache, 0);
        if (rule == Cachebench.ADAPTING) all.append(' ').append(x.leaning(cache));
        if (rule == Cachebench.LEAST_COST) all.append(' ').append(x.worth(cache, Cachebench.NONE));
        for (int key = 0; key < 26; key++) {
            if (rule == Cachebench.TWO_QUEUES) all.append(x.remembers(cache, key));
            if (rule == Cachebench.LEAST_COST && x.holds(cache, key)) all.append(' ').append(x.worth(cache, key));
        }
    }

    /** Runs each test of a class: its package-visible static methods without parameters that answer nothing. */
    static void runAll(Class<?> tests) {
        java.lang.reflect.Method[] methods = tests.getDeclaredMethods();
        java.util.Arrays.sort(methods, java.util.Comparator.comparing(java.lang.reflect.Method::getName));
        for (java.lang.reflect.Method test : methods) {
            boolean isTest = test.getModifiers() == java.lang.reflect.Modifier.STATIC && test.getParameterCount() == 0;
            if (isTest && test.getReturnType() == void.class && !test.isSynthetic()) run(test);
        }
        end();
    }

    private static void run(java.lang.reflect.Method test) {
        try {
            test.invoke(null);
        } catch (java.lang.reflect.InvocationTargetException e) {
            due(test.getName(), e.getCause().toString(), "to its end");
            e.getCause().printStackTrace(System.out);
        } catch (IllegalAccessException e) {
            due(test.getName(), e.toString(), "to be called");
        }
    }

    static void end() {
        System.out.println(wrong == 0 ? "all answers are as due" : wrong + " answers are not as due");
        if (wrong != 0) System.exit(1);
    }
}
