import java.util.ArrayDeque;
import java.util.ArrayList;
import java.util.Arrays;
import java.util.Deque;
import java.util.List;
import java.util.NoSuchElementException;
import java.util.Random;

/**
 * Feeds Cachebench and a plain model of the document with the same calls, in many runs, and prints each run in which
 * an answer differs. The model looks everything up in histories and lists; it shares no code with the program.
 */
public final class ModelTest {

    private static final int RUNS = 700;
    private static final int CALLS = 300;

    private static final class Held implements Cloneable {
        int key, minute;
        boolean dirty, mark, old, fetched;
        int used, came;
        long worth;

        Held copy() {
            try {
                return (Held) clone();
            } catch (CloneNotSupportedException e) {
                throw new AssertionError(e);
            }
        }
    }

    /** A model of a cache; the shadows are caches of this kind too. */
    private static final class MCache {
        int rule, room, lapse, mode;
        int[] shares = new int[4];
        List<Held> queue = new ArrayList<>();
        List<Integer> remembered = new ArrayList<>();
        List<int[]> fed = new ArrayList<>();
        int fedFrom;
        int[] counts = new int[9];
        long level;
        int tick;
        MCache lastUse, fewest;

        MCache(int rule, int room, int lapse, int mode) {
            this.rule = rule;
            this.room = room;
            this.lapse = lapse;
            this.mode = mode;
            empty(0);
        }

        MCache copy() {
            MCache c = new MCache(rule, room, lapse, mode);
            c.shares = shares.clone();
            for (Held h : queue) c.queue.add(h.copy());
            c.remembered.addAll(remembered);
            c.fed.addAll(fed);
            c.fedFrom = fedFrom;
            c.counts = counts.clone();
            c.level = level;
            c.tick = tick;
            c.lastUse = lastUse == null ? null : lastUse.copy();
            c.fewest = fewest == null ? null : fewest.copy();
            return c;
        }

        void empty(int from) {
            queue.clear();
            remembered.clear();
            fed.clear();
            fedFrom = from;
            counts = new int[9];
            level = 0;
            tick = 0;
            lastUse = rule == 6 ? new MCache(0, room, 0, 0) : null;
            fewest = rule == 6 ? new MCache(1, room, 0, 0) : null;
        }

        Held find(int key) {
            for (Held h : queue) if (h.key == key) return h;
            return null;
        }

        int units(M m) {
            int sum = 0;
            for (Held h : queue) sum += m.size[h.key];
            return sum;
        }

        int times(int key) {
            int n = 0;
            for (int[] f : fed) if (f[0] == key) n++;
            return n;
        }

        int latest(int key) {
            for (int i = fed.size() - 1; i >= 0; i--) if (fed.get(i)[0] == key) return i;
            return -1;
        }

        void gone(Held h) {
            queue.remove(h);
            if (h.dirty) counts[4]++;
        }

        int ownerHas(M m, int owner, int incoming) {
            int sum = incoming >= 0 && m.owner[incoming] == owner ? m.size[incoming] : 0;
            for (Held h : queue) if (m.owner[h.key] == owner) sum += m.size[h.key];
            return sum;
        }

        boolean hasShares() {
            return shares[0] + shares[1] + shares[2] + shares[3] > 0;
        }

        List<Held> canGo(M m, int incoming, int staying) {
            List<Held> all = new ArrayList<>(), theirs = new ArrayList<>();
            for (Held h : queue) {
                if (h.key == staying) continue;
                all.add(h);
                int owner = m.owner[h.key];
                if (ownerHas(m, owner, incoming) > shares[owner]) theirs.add(h);
            }
            return hasShares() && !theirs.isEmpty() ? theirs : all;
        }

        boolean before(Held a, Held b, int by) {
            switch (by) {
                case 1:
                    int ta = times(a.key), tb = times(b.key);
                    return ta != tb ? ta < tb : latest(a.key) < latest(b.key);
                case 2: return a.came < b.came;
                case 5: return a.worth != b.worth ? a.worth < b.worth : a.key < b.key;
                default: return a.used < b.used;
            }
        }

        Held first(List<Held> of, int by) {
            Held found = null;
            for (Held h : of) if (found == null || before(h, found, by)) found = h;
            return found;
        }

        Held pick(M m, List<Held> can, boolean really) {
            switch (rule) {
                case 0: return first(can, 0);
                case 1: return first(can, 1);
                case 2: return first(can, 2);
                case 3: {
                    List<Held> q = queue;
                    if (!really) {
                        q = new ArrayList<>();
                        for (Held h : queue) q.add(h.copy());
                    }
                    while (true) {
                        Held h = q.remove(0);
                        boolean may = false;
                        for (Held c : can) may |= c.key == h.key;
                        if (may && !h.mark) {
                            q.add(0, h);
                            return h;
                        }
                        if (may) h.mark = false;
                        q.add(h);
                    }
                }
                case 4: {
                    List<Held> young = new ArrayList<>(), old = new ArrayList<>();
                    for (Held h : can) (h.old ? old : young).add(h);
                    int sum = 0;
                    for (Held h : queue) if (!h.old) sum += m.size[h.key];
                    boolean above = sum > Math.max(1, room / 4);
                    if ((above || old.isEmpty()) && !young.isEmpty()) return first(young, 2);
                    return first(old, 0);
                }
                case 5: return first(can, 5);
                default: return first(can, lastUse.counts[1] <= fewest.counts[1] ? 0 : 1);
            }
        }

        void makeRoom(M m, int incoming, int staying) {
            while (units(m) + m.size[incoming] > room) {
                Held out = pick(m, canGo(m, incoming, staying), true);
                if (rule == 5 && level < out.worth) level = out.worth;
                if (rule == 4 && !out.old) {
                    remembered.add(out.key);
                    if (remembered.size() > room) remembered.remove(0);
                }
                gone(out);
                counts[2]++;
            }
        }

        void use(M m, Held h) {
            h.used = ++tick;
            h.worth = level + 840L * m.cost[h.key] / m.size[h.key];
        }

        Held comeIn(M m, int key, int minute) {
            Held h = new Held();
            h.key = key;
            h.minute = minute;
            h.old = remembered.remove((Integer) key);
            use(m, h);
            h.came = h.used;
            queue.add(h);
            return h;
        }

        boolean feed(M m, int x, boolean write, int minute) {
            int ahead = latest(x);
            Held h = find(x);
            boolean hit = h != null;
            fed.add(new int[] {x, 0});
            int[] record = fed.get(fed.size() - 1);
            if (hit) {
                counts[0]++;
                if (h.fetched) counts[7]++;
                h.fetched = false;
                h.mark = true;
                use(m, h);
            } else {
                counts[1]++;
                counts[8] += m.cost[x];
                if (m.size[x] > room) {
                    counts[5]++;
                    record[1] = 2;
                } else {
                    record[1] = 1;
                    makeRoom(m, x, -1);
                    h = comeIn(m, x, minute);
                }
            }
            if (write) {
                if (h != null) h.minute = minute;
                if (h != null && mode % 2 == 1) h.dirty = true;
                else counts[4]++;
            }
            if (mode >= 2 && ahead >= 0) {
                int y = fed.get(ahead + 1)[0];
                if (y != x && find(y) == null && m.size[y] + (h != null ? m.size[x] : 0) <= room) {
                    makeRoom(m, y, x);
                    comeIn(m, y, minute).fetched = true;
                    counts[6]++;
                }
            }
            if (rule == 6) {
                lastUse.feed(m, x, false, minute);
                fewest.feed(m, x, false, minute);
            }
            return hit;
        }

        int lapseAt(int minute) {
            int n = 0;
            for (int key = 0; key < 26; key++) {
                Held h = find(key);
                if (h != null && lapse > 0 && h.minute + lapse <= minute) {
                    gone(h);
                    n++;
                    counts[3]++;
                }
            }
            return n;
        }

        List<Integer> order() {
            List<Held> left = new ArrayList<>(queue);
            List<Integer> keys = new ArrayList<>();
            while (!left.isEmpty()) {
                Held h;
                if (rule == 3) {
                    h = left.get(0);
                } else if (rule == 4) {
                    List<Held> young = new ArrayList<>();
                    for (Held l : left) if (!l.old) young.add(l);
                    h = young.isEmpty() ? first(left, 0) : first(young, 2);
                } else {
                    h = first(left, rule);
                }
                left.remove(h);
                keys.add(h.key);
            }
            return keys;
        }
    }

    private static final class M {
        int[] size = new int[26], cost = new int[26], owner = new int[26];
        List<int[]> row = new ArrayList<>();
        int time;
        MCache[] caches = new MCache[6];
        Deque<M> past = new ArrayDeque<>();
        List<Integer> cursor;
        int cursorCache, told;
        boolean canDrop;
        List<Integer> text = new ArrayList<>();
        List<Integer> found;

        M() {
            Arrays.fill(size, 1);
            Arrays.fill(cost, 1);
            for (int i = 0; i < 6; i++) caches[i] = new MCache(i == 5 ? 6 : i, 4, 0, 0);
        }

        void copyFrom(M o) {
            size = o.size.clone();
            cost = o.cost.clone();
            owner = o.owner.clone();
            row = new ArrayList<>(o.row);
            time = o.time;
            for (int i = 0; i < 6; i++) caches[i] = o.caches[i].copy();
        }

        void change(boolean closes) {
            M kept = new M();
            kept.copyFrom(this);
            past.addLast(kept);
            if (past.size() > 6) past.removeFirst();
            if (closes) cursor = null;
        }

        static void index(int i, int bound) {
            if (i < 0 || i >= bound) throw new IndexOutOfBoundsException();
        }

        static void range(long v, long lo, long hi) {
            if (v < lo || v > hi) throw new IllegalArgumentException();
        }

        static void state(boolean ok) {
            if (!ok) throw new IllegalStateException();
        }

        static void there(boolean ok) {
            if (!ok) throw new NoSuchElementException();
        }

        int ask(int key, boolean write) {
            row.add(new int[] {key, write ? 1 : 0, time});
            int bits = 0;
            for (int i = 0; i < 6; i++) if (caches[i].feed(this, key, write, time)) bits |= 1 << i;
            return bits;
        }

        // ---- text, by descent

        int at;
        int failed;

        int peek() {
            while (at < text.size() && text.get(at) == 32) at++;
            return at < text.size() ? text.get(at) : -1;
        }

        void fail(int place) {
            if (failed < 0) failed = place;
        }

        /** Answers what the text tells, as far as 301 requests; stops behind the first error. */
        List<int[]> readText(int depth) {
            List<int[]> told = new ArrayList<>();
            while (failed < 0) {
                int c = peek();
                if (c == -1 || c == ')' && depth > 0) return told;
                if (c >= 'a' && c <= 'z') {
                    at++;
                    boolean write = peek() == '!';
                    if (write) at++;
                    if (told.size() <= 300) told.add(new int[] {c - 'a', write ? 1 : 0});
                } else if (c >= '0' && c <= '9') {
                    int begin = at;
                    String digits = "";
                    while (at < text.size() && text.get(at) >= '0' && text.get(at) <= '9') digits += (char) (int) text.get(at++);
                    if (digits.length() > 2 || Integer.parseInt(digits) < 1 || Integer.parseInt(digits) > 50) {
                        fail(begin);
                        return told;
                    }
                    c = peek();
                    if (c != '(' || depth == 3) {
                        fail(at);
                        return told;
                    }
                    at++;
                    List<int[]> inner = readText(depth + 1);
                    if (failed >= 0) return told;
                    if (peek() != ')') {
                        fail(at);
                        return told;
                    }
                    at++;
                    for (int i = Integer.parseInt(digits); i > 0 && told.size() <= 300; i--) told.addAll(inner);
                } else {
                    fail(at);
                }
            }
            return told;
        }

        List<int[]> readAll() {
            at = 0;
            failed = -1;
            List<int[]> told = readText(0);
            return told;
        }

        // ---- the row

        int distance(int i) {
            int p = i - 1;
            while (p >= 0 && row.get(p)[0] != row.get(i)[0]) p--;
            if (p < 0) return -1;
            List<Integer> others = new ArrayList<>();
            for (int j = p + 1; j < i; j++) if (!others.contains(row.get(j)[0])) others.add(row.get(j)[0]);
            return 1 + others.size();
        }

        int simHits, simOut;

        List<Integer> simulate(int rule, int k, int n) {
            List<Integer> in = new ArrayList<>();
            simHits = 0;
            simOut = -1;
            for (int i = 0; i < n; i++) {
                int x = row.get(i)[0];
                simOut = -1;
                if (in.contains(x)) {
                    simHits++;
                    continue;
                }
                if (in.size() == k) {
                    int best = -1;
                    long bestRank = 0;
                    for (int key : in) {
                        long rank = 0;
                        int last = -1, many = 0, next = -1;
                        for (int j = 0; j < i; j++) {
                            if (row.get(j)[0] == key) {
                                last = j;
                                many++;
                            }
                        }
                        for (int j = row.size() - 1; j > i; j--) if (row.get(j)[0] == key) next = j;
                        if (rule == 0) rank = last;
                        if (rule == 1) rank = many * 1000L + last;
                        if (rule == 2) rank = in.indexOf(key);
                        if (rule == -1) rank = next < 0 ? -1000 - key : -next;
                        if (best == -1 || rank < bestRank) {
                            best = key;
                            bestRank = rank;
                        }
                    }
                    simOut = best;
                    in.remove((Integer) best);
                }
                in.add(x);
            }
            return in;
        }

        int hits(int rule, int k) {
            simulate(rule, k, row.size());
            return simHits;
        }

        int phaseOf(int k, int request) {
            int phase = 0;
            List<Integer> in = new ArrayList<>();
            for (int i = 0; i <= request; i++) {
                int x = row.get(i)[0];
                if (in.contains(x)) continue;
                if (in.size() == k) {
                    phase++;
                    in.clear();
                }
                in.add(x);
            }
            return phase;
        }

        static void rowRule(int rule) {
            range(rule, -1, 2);
        }

        /** Answers as the document says; a boolean as 1 or 0. */
        long call(int op, int[] a) {
            MCache c = op >= 7 && a.length > 0 && a[0] >= 0 && a[0] < 6 ? caches[a[0]] : null;
            switch (op) {
                case 0: {
                    index(a[0], 26);
                    range(a[1], 1, 8);
                    range(a[2], 0, 1000);
                    range(a[3], 0, 3);
                    for (MCache m : caches) {
                        state(m.find(a[0]) == null);
                        state(m.rule != 6 || m.lastUse.find(a[0]) == null && m.fewest.find(a[0]) == null);
                    }
                    change(true);
                    int was = size[a[0]];
                    size[a[0]] = a[1];
                    cost[a[0]] = a[2];
                    owner[a[0]] = a[3];
                    return was;
                }
                case 1: {
                    range(a[0], 1, 1000);
                    change(true);
                    time += a[0];
                    int n = 0;
                    for (MCache m : caches) n += m.lapseAt(time);
                    return n;
                }
                case 2:
                    index(a[0], 26);
                    state(row.size() < 300);
                    change(true);
                    return ask(a[0], a[1] == 1);
                case 3: {
                    range(a[1], 1, 50);
                    range(a[2], 1, 26);
                    range(a[3], 0, 100);
                    state(row.size() + a[1] <= 300);
                    change(true);
                    int n = 0, x = a[0];
                    for (int i = 0; i < a[1]; i++) {
                        x = x * 1103515245 + 12345;
                        int key = (x >>> 16) % a[2];
                        x = x * 1103515245 + 12345;
                        n += Integer.bitCount(ask(key, (x >>> 16) % 100 < a[3]));
                    }
                    return n;
                }
                case 4: {
                    List<int[]> told = readAll();
                    if (failed >= 0) throw new IllegalArgumentException();
                    state(row.size() + told.size() <= 300);
                    change(true);
                    for (int[] t : told) ask(t[0], t[1] == 1);
                    return told.size();
                }
                case 5: {
                    change(true);
                    int n = row.size();
                    row.clear();
                    for (MCache m : caches) m.empty(0);
                    return n;
                }
                case 6: {
                    change(true);
                    int n = 0;
                    for (MCache m : caches) {
                        m.empty(0);
                        for (int[] r : row) {
                            m.lapseAt(r[2]);
                            if (m.feed(this, r[0], r[1] == 1, r[2])) n++;
                        }
                        m.lapseAt(time);
                    }
                    return n;
                }
                case 7: {
                    index(a[0], 6);
                    range(a[1], 0, 6);
                    range(a[2], 1, 20);
                    range(a[3], 0, 1000);
                    range(a[4], 0, 3);
                    change(true);
                    int n = caches[a[0]].queue.size();
                    caches[a[0]] = new MCache(a[1], a[2], a[3], a[4]);
                    caches[a[0]].fedFrom = row.size();
                    return n;
                }
                case 8: {
                    index(a[0], 6);
                    for (int i = 1; i < 5; i++) range(a[i], 0, Integer.MAX_VALUE);
                    range((long) a[1] + a[2] + a[3] + a[4], 0, c.room);
                    change(true);
                    c.shares = new int[] {a[1], a[2], a[3], a[4]};
                    int n = 0;
                    for (int o = 0; o < 4; o++) if (c.hasShares() && c.ownerHas(this, o, -1) > c.shares[o]) n++;
                    return n;
                }
                case 9: {
                    index(a[0], 6);
                    change(true);
                    int n = 0;
                    for (Held h : c.queue) {
                        if (h.dirty) n++;
                        h.dirty = false;
                    }
                    c.counts[4] += n;
                    return n;
                }
                case 10: {
                    index(a[0], 6);
                    index(a[1], 26);
                    there(c.find(a[1]) != null);
                    change(true);
                    Held h = c.find(a[1]);
                    c.gone(h);
                    return h.dirty ? 1 : 0;
                }
                case 11: {
                    state(cursor != null && canDrop);
                    change(false);
                    canDrop = false;
                    MCache m = caches[cursorCache];
                    m.gone(m.find(cursor.get(told - 1)));
                    return cursor.get(told - 1);
                }
                case 12: {
                    state(!past.isEmpty());
                    cursor = null;
                    copyFrom(past.removeLast());
                    return past.size();
                }
                case 13:
                    index(a[0], 6);
                    cursor = c.order();
                    cursorCache = a[0];
                    told = 0;
                    canDrop = false;
                    return cursor.size();
                case 14:
                    state(cursor != null);
                    there(told < cursor.size());
                    canDrop = true;
                    return cursor.get(told++);
                case 15:
                    range(a[0], 0, 255);
                    state(text.size() < 200);
                    text.add(a[0]);
                    return text.size();
                case 16: {
                    int n = text.size();
                    text.clear();
                    return n;
                }
                case 17:
                    readAll();
                    return failed;
                case 18: {
                    index(a[0], 26);
                    range(a[1], 0, 3);
                    int n = 0;
                    for (int[] r : row) if (r[0] == a[0]) n++;
                    return new int[] {size[a[0]], cost[a[0]], owner[a[0]], n}[a[1]];
                }
                case 19: return time;
                case 20: return row.size();
                case 21:
                    index(a[0], row.size());
                    range(a[1], 0, 2);
                    return row.get(a[0])[a[1]];
                case 22:
                    index(a[0], 6);
                    index(a[1], 26);
                    return c.find(a[1]) != null ? 1 : 0;
                case 23:
                    index(a[0], 6);
                    index(a[1], 26);
                    return c.find(a[1]) != null && c.find(a[1]).dirty ? 1 : 0;
                case 24: {
                    index(a[0], 6);
                    range(a[1], 0, 7);
                    int dirty = 0;
                    for (Held h : c.queue) if (h.dirty) dirty++;
                    return new int[] {c.rule, c.room, c.lapse, c.mode, c.queue.size(), c.units(this), dirty,
                        c.remembered.size()}[a[1]];
                }
                case 25:
                    index(a[0], 6);
                    range(a[1], 0, 3);
                    return a[2] == 1 ? c.shares[a[1]] : c.ownerHas(this, a[1], -1);
                case 26:
                    index(a[0], 6);
                    there(a[1] >= 0 && a[1] < c.queue.size());
                    return c.order().get(a[1]);
                case 27:
                    index(a[0], 6);
                    index(a[1], 26);
                    if (c.find(a[1]) != null || size[a[1]] > c.room || c.units(this) + size[a[1]] <= c.room) return -1;
                    return c.pick(this, c.canGo(this, a[1], -1), false).key;
                case 28:
                    index(a[0], 6);
                    range(a[1], 0, 8);
                    return c.counts[a[1]];
                case 29: {
                    index(a[0], 6);
                    index(a[1], 26);
                    int n = 0;
                    for (int[] f : c.fed) if (f[0] == a[1] && (f[1] == 0) == (a[2] == 1)) n++;
                    return n;
                }
                case 30:
                    index(a[0], 6);
                    index(a[1], row.size());
                    return a[1] < c.fedFrom ? -1 : c.fed.get(a[1] - c.fedFrom)[1];
                case 31: {
                    index(a[0], 6);
                    index(a[1], row.size());
                    index(a[2], row.size());
                    range(a[2], a[1], Integer.MAX_VALUE);
                    int n = 0;
                    for (int i = Math.max(a[1], c.fedFrom); i <= a[2]; i++) if (c.fed.get(i - c.fedFrom)[1] == 0) n++;
                    return n;
                }
                case 32:
                    index(a[0], 6);
                    index(a[1] + 1, 27);
                    range(c.rule, 5, 5);
                    if (a[1] == -1) return c.level;
                    there(c.find(a[1]) != null);
                    return c.find(a[1]).worth;
                case 33:
                    index(a[0], 6);
                    index(a[1], 26);
                    range(c.rule, 4, 4);
                    return c.remembered.contains(a[1]) ? 1 : 0;
                case 34:
                    index(a[0], 6);
                    range(c.rule, 6, 6);
                    return c.lastUse.counts[1] <= c.fewest.counts[1] ? 0 : 1;
                case 35:
                    index(a[0], row.size());
                    return distance(a[0]);
                case 36:
                    rowRule(a[0]);
                    range(a[1], 1, 26);
                    return hits(a[0], a[1]);
                case 37:
                    index(a[3], 26);
                    rowRule(a[0]);
                    range(a[1], 1, 26);
                    range(a[2], 0, row.size());
                    return simulate(a[0], a[1], a[2]).contains(a[3]) ? 1 : 0;
                case 38:
                    index(a[1], row.size());
                    range(a[0], 1, 26);
                    simulate(-1, a[0], a[1] + 1);
                    return simOut;
                case 39:
                    range(a[0], 1, 26);
                    return row.isEmpty() ? 0 : 1 + phaseOf(a[0], row.size() - 1);
                case 40:
                    index(a[1], row.size());
                    range(a[0], 1, 26);
                    return phaseOf(a[0], a[1]);
                case 41: {
                    range(a[0], 1, 26);
                    range(a[1], 1, a[0]);
                    int d = a[0] - a[1] + 1;
                    return a[0] * (row.size() - hits(-1, a[1])) + d * a[1] - d * (row.size() - hits(0, a[0]));
                }
                case 42: {
                    index(a[0], 6);
                    int all = c.counts[0] + c.counts[1];
                    return Double.doubleToLongBits(all == 0 ? 0.0 : (double) c.counts[0] / (double) all);
                }
                case 43: {
                    int sum = 0, n = 0;
                    for (int i = 0; i < row.size(); i++) {
                        int d = distance(i);
                        if (d >= 0) {
                            sum += d;
                            n++;
                        }
                    }
                    return Float.floatToIntBits(n == 0 ? 0.0f : (float) sum / (float) n);
                }
                default: return 0;
            }
        }
    }

    private static final String[] NAMES = {"setKey", "pass", "request", "draw", "run", "clearRow", "replay", "setCache",
        "setShares", "flush", "drop", "dropTold", "undo", "open", "next", "type", "clearText", "errorPlace", "keyAt",
        "now", "rowLength", "requestAt", "holds", "isDirty", "cacheAt", "ownerAt", "keyInOrder", "victim", "count",
        "countOf", "outcome", "hitsBetween", "worth", "remembers", "leaning", "distance", "hits", "holdsAfter",
        "bestVictim", "phases", "phaseOf", "slack", "hitShare", "meanDistance", "errors"};

    private static long call(Cachebench x, int op, int[] a) {
        switch (op) {
            case 0: return x.setKey(a[0], a[1], a[2], a[3]);
            case 1: return x.pass(a[0]);
            case 2: return x.request(a[0], a[1] == 1);
            case 3: return x.draw(a[0], a[1], a[2], a[3]);
            case 4: return x.run();
            case 5: return x.clearRow();
            case 6: return x.replay();
            case 7: return x.setCache(a[0], a[1], a[2], a[3], a[4]);
            case 8: return x.setShares(a[0], a[1], a[2], a[3], a[4]);
            case 9: return x.flush(a[0]);
            case 10: return x.drop(a[0], a[1]) ? 1 : 0;
            case 11: return x.dropTold();
            case 12: return x.undo();
            case 13: return x.open(a[0]);
            case 14: return x.next();
            case 15: return x.type(a[0]);
            case 16: return x.clearText();
            case 17: return x.errorPlace();
            case 18: return x.keyAt(a[0], a[1]);
            case 19: return x.now();
            case 20: return x.rowLength();
            case 21: return x.requestAt(a[0], a[1]);
            case 22: return x.holds(a[0], a[1]) ? 1 : 0;
            case 23: return x.isDirty(a[0], a[1]) ? 1 : 0;
            case 24: return x.cacheAt(a[0], a[1]);
            case 25: return x.ownerAt(a[0], a[1], a[2] == 1);
            case 26: return x.keyInOrder(a[0], a[1]);
            case 27: return x.victim(a[0], a[1]);
            case 28: return x.count(a[0], a[1]);
            case 29: return x.countOf(a[0], a[1], a[2] == 1);
            case 30: return x.outcome(a[0], a[1]);
            case 31: return x.hitsBetween(a[0], a[1], a[2]);
            case 32: return x.worth(a[0], a[1]);
            case 33: return x.remembers(a[0], a[1]) ? 1 : 0;
            case 34: return x.leaning(a[0]);
            case 35: return x.distance(a[0]);
            case 36: return x.hits(a[0], a[1]);
            case 37: return x.holdsAfter(a[0], a[1], a[2], a[3]) ? 1 : 0;
            case 38: return x.bestVictim(a[0], a[1]);
            case 39: return x.phases(a[0]);
            case 40: return x.phaseOf(a[0], a[1]);
            case 41: return x.slack(a[0], a[1]);
            case 42: return Double.doubleToLongBits(x.hitShare(a[0]));
            case 43: return Float.floatToIntBits(x.meanDistance());
            default: return x.errors();
        }
    }

    private static String answer(Cachebench x, M m, int op, int[] a) {
        try {
            return "" + (x != null ? call(x, op, a) : m.call(op, a));
        } catch (IllegalStateException | IllegalArgumentException | NoSuchElementException e) {
            return "throws." + e.getClass().getName();
        } catch (IndexOutOfBoundsException e) {
            return "throws." + e.getClass().getName();
        }
    }

    private static Random random;

    /** A number in the range; now and then one beside it or far off. */
    private static int in(int least, int most) {
        int off = random.nextInt(120);
        if (off == 0) return least - 1;
        if (off == 1) return most + 1;
        if (off == 2) return random.nextBoolean() ? Integer.MIN_VALUE : Integer.MAX_VALUE;
        return most < least ? least : least + random.nextInt(most - least + 1);
    }

    private static int keys;

    private static int key() {
        return random.nextInt(4) == 0 ? in(0, 25) : in(0, keys - 1);
    }

    private static int cache() {
        return in(0, 5);
    }

    private static int asked(M m) {
        return in(0, m.row.size() - 1);
    }

    private static int size() {
        return random.nextInt(3) == 0 ? in(1, 26) : in(1, 6);
    }

    private static int[] arguments(M m, int op) {
        switch (op) {
            case 0: return new int[] {key(), random.nextBoolean() ? in(1, 8) : in(1, 3), random.nextBoolean() ? in(0, 1000) : in(0, 4), in(0, 3)};
            case 1: return new int[] {random.nextInt(5) == 0 ? in(1, 1000) : in(1, 8)};
            case 2: return new int[] {key(), random.nextInt(3) == 0 ? 1 : 0};
            case 3: return new int[] {random.nextInt(), random.nextInt(3) == 0 ? in(1, 50) : in(1, 8), random.nextBoolean() ? in(1, keys) : in(1, 26), in(0, 100)};
            case 7: return new int[] {cache(), in(0, 6), random.nextInt(3) == 0 ? in(1, 20) : in(1, 8), random.nextBoolean() ? 0 : random.nextInt(4) == 0 ? in(0, 1000) : in(1, 20), in(0, 3)};
            case 8: {
                int c = cache();
                int room = c >= 0 && c < 6 ? m.caches[c].room : 4;
                if (random.nextInt(5) == 0) return new int[] {c, 0, 0, 0, 0};
                if (random.nextInt(9) == 0) return new int[] {c, in(0, room), in(0, room), in(0, room), in(0, room)};
                int[] s = {c, 0, 0, 0, 0};
                for (int i = random.nextInt(room + 1); i > 0; i--) s[1 + random.nextInt(4)]++;
                return s;
            }
            case 9: case 13: case 34: case 42: return new int[] {cache()};
            case 10: {
                int c = cache();
                if (c >= 0 && c < 6 && !m.caches[c].queue.isEmpty() && random.nextInt(4) > 0) {
                    return new int[] {c, m.caches[c].queue.get(random.nextInt(m.caches[c].queue.size())).key};
                }
                return new int[] {c, key()};
            }
            case 15: return new int[] {random.nextInt(12) == 0 ? in(0, 255) : "abcdefgh((()))!! 1235049".charAt(random.nextInt(24))};
            case 18: return new int[] {key(), in(0, 3)};
            case 21: return new int[] {asked(m), in(0, 2)};
            case 22: case 23: case 27: case 33: return new int[] {cache(), key()};
            case 32: return new int[] {cache(), random.nextInt(5) == 0 ? -1 : key()};
            case 24: return new int[] {cache(), in(0, 7)};
            case 25: return new int[] {cache(), in(0, 3), random.nextInt(2)};
            case 26: return new int[] {cache(), in(0, 5)};
            case 28: return new int[] {cache(), in(0, 8)};
            case 29: return new int[] {cache(), key(), random.nextInt(2)};
            case 30: return new int[] {cache(), asked(m)};
            case 31: {
                int from = asked(m);
                return new int[] {cache(), from, random.nextInt(6) == 0 || from < 0 ? asked(m) : in(from, m.row.size() - 1)};
            }
            case 35: return new int[] {asked(m)};
            case 36: return new int[] {in(-1, 2), size()};
            case 37: return new int[] {in(-1, 2), size(), in(0, m.row.size()), key()};
            case 38: case 40: return new int[] {size(), asked(m)};
            case 39: return new int[] {size()};
            case 41: {
                int k = size();
                return new int[] {k, in(1, Math.min(26, Math.max(1, k)))};
            }
            default: return new int[0];
        }
    }

    private static int operation() {
        int r = random.nextInt(100);
        if (r < 22) return 2;
        if (r < 27) return 3;
        if (r < 31) return 1;
        if (r < 35) return 0;
        if (r < 38) return 7;
        if (r < 41) return 8;
        if (r < 44) return 10;
        if (r < 46) return 12;
        if (r < 50) return 14;
        if (r < 52) return 11;
        if (r < 55) return 15;
        return random.nextInt(NAMES.length);
    }

    /** All that can be asked of the caches, as one text. */
    private static String picture(Cachebench x, M m) {
        StringBuilder all = new StringBuilder();
        for (int c = 0; c < 6; c++) {
            for (int what = 0; what < 8; what++) all.append(answer(x, m, 24, new int[] {c, what})).append(' ');
            for (int what = 0; what < 9; what++) all.append(answer(x, m, 28, new int[] {c, what})).append(' ');
            int held = Integer.parseInt(answer(x, m, 24, new int[] {c, 4}));
            for (int place = 0; place <= held; place++) all.append(answer(x, m, 26, new int[] {c, place})).append(' ');
            for (int key = 0; key < 26; key++) {
                all.append(answer(x, m, 23, new int[] {c, key})).append(answer(x, m, 27, new int[] {c, key}));
                if (m.caches[c].rule == 4) all.append(answer(x, m, 33, new int[] {c, key}));
                if (m.caches[c].rule == 5) all.append(answer(x, m, 32, new int[] {c, key})).append(' ');
            }
            all.append(answer(x, m, 34, new int[] {c})).append('\n');
        }
        for (int request = 0; request < m.row.size(); request++) {
            for (int what = 0; what < 3; what++) all.append(answer(x, m, 21, new int[] {request, what})).append(' ');
        }
        return all.toString();
    }

    /** Answers whether all answers of a run were as due. */
    private static boolean run(int seed) {
        random = new Random(seed);
        keys = 2 + random.nextInt(12);
        Cachebench x = new Cachebench();
        M m = new M();
        List<String> calls = new ArrayList<>();
        for (int n = 0; n < CALLS; n++) {
            int op = operation();
            if (op == 5 && random.nextInt(3) > 0) op = 6;
            int[] a = arguments(m, op);
            String got = answer(x, null, op, a);
            String due = answer(null, m, op, a);
            calls.add(NAMES[op] + Arrays.toString(a) + " " + got);
            boolean same = got.equals(due);
            if (same && op < 13 && n % 3 == 0) {
                String gotPicture = picture(x, m);
                due = picture(null, m);
                same = gotPicture.equals(due);
                if (!same) calls.add(gotPicture);
            }
            if (!same) {
                System.out.println("run " + seed + ", due is " + due);
                for (String call : calls) System.out.println("  " + call);
                return false;
            }
        }
        return true;
    }

    // ---- shame, by all rows

    private static final class ShameModel {
        int rule, room, greater, keys;
        int[] row = new int[12];

        int hits(int most, int length) {
            List<int[]> queue = new ArrayList<>();
            int hits = 0;
            for (int i = 0; i < length; i++) {
                int[] held = null;
                for (int[] q : queue) if (q[0] == row[i]) held = q;
                if (held != null) {
                    hits++;
                    held[1] = rule == 3 ? 1 : 0;
                    continue;
                }
                while (queue.size() == most) {
                    int[] first = queue.remove(0);
                    if (first[1] == 1) queue.add(new int[] {first[0], 0});
                }
                queue.add(new int[] {row[i], 0});
            }
            return hits;
        }

        boolean find(int place, int length, int asked) {
            if (place == length) return hits(greater, length) < hits(room, length);
            for (int key = 0; key < keys && key <= asked; key++) {
                row[place] = key;
                if (find(place + 1, length, Math.max(asked, key + 1))) return true;
            }
            return false;
        }
    }

    private static int shames() {
        int wrong = 0;
        Cachebench x = new Cachebench();
        for (int rule = 2; rule <= 3; rule++) {
            for (int room = 1; room <= 4; room++) {
                for (int greater = room + 1; greater <= 6; greater++) {
                    for (int keys = 2; keys <= 5; keys++) {
                        ShameModel model = new ShameModel();
                        model.rule = rule;
                        model.room = room;
                        model.greater = greater;
                        model.keys = keys;
                        boolean isBelady = rule == 2 && room == 3 && greater == 4;
                        int longest = rule == 3 ? 9 : isBelady ? 12 : 9;
                        int due = -1;
                        for (int length = 1; length <= longest; length++) {
                            if (due < 0 && model.find(0, length, 0)) due = length;
                            int got = x.shame(rule, room, greater, keys, length);
                            boolean same = got == due;
                            for (int place = 0; same && place < due; place++) same = x.shameAt(place) == model.row[place];
                            if (!same) {
                                wrong++;
                                System.out.println("shame " + rule + " " + room + " " + greater + " " + keys + " " + length + " answered " + got + ", due is " + due);
                            }
                        }
                    }
                }
            }
        }
        return wrong;
    }

    public static void main(String[] args) {
        int wrong = shames();
        int from = args.length > 0 ? Integer.parseInt(args[0]) : 1;
        int runs = args.length > 1 ? Integer.parseInt(args[1]) : RUNS;
        for (int seed = from; seed < from + runs && wrong < 3; seed++) {
            if (!run(seed)) wrong++;
        }
        System.out.println(wrong == 0 ? "the model agrees" : "the model differs");
        if (wrong != 0) System.exit(1);
    }
}
