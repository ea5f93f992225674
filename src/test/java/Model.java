import java.util.ArrayList;
import java.util.Arrays;
import java.util.List;
import java.util.NoSuchElementException;

/**
 * The document, taken by its words and without any regard to speed: what came to one is kept as a row of
 * what it would have been in each world, and whatever asks "what if" does it in a copy.
 */
final class Model {
    static final class Wrong extends Exception {
        private static final long serialVersionUID = 1L;

        final int at;

        Wrong(int at) {
            this.at = at;
        }
    }

    int v = 2;
    List<Integer> notices = new ArrayList<>();
    boolean[][] sees = new boolean[10][10];
    boolean[] left = {true};
    List<List<int[]>> came = new ArrayList<>();
    int day;
    int seed = 1;
    int texts;
    boolean closed;
    LawTree rule;
    List<int[]> log = new ArrayList<>();
    byte[] tape = new byte[0];
    int fault = -1;
    Model kept;
    List<Model> past = new ArrayList<>();

    // ---- copies

    Model copy() {
        Model m = new Model();
        m.take(this);
        return m;
    }

    void take(Model o) {
        v = o.v;
        notices = new ArrayList<>(o.notices);
        sees = new boolean[10][];
        for (int i = 0; i < 10; i++) {
            sees[i] = o.sees[i].clone();
        }
        left = o.left.clone();
        came = new ArrayList<>();
        for (List<int[]> l : o.came) {
            came.add(new ArrayList<>(l));
        }
        day = o.day;
        seed = o.seed;
        texts = o.texts;
        closed = o.closed;
        rule = o.rule;
        log = new ArrayList<>(o.log);
    }

    // ---- worlds

    int n() {
        return notices.size();
    }

    int worlds() {
        int w = 1;
        for (int i = 0; i < n(); i++) {
            w *= v;
        }
        return w;
    }

    private int[][] figureTable = {};
    private int figureKey = -1;

    int[] figures(int code) {
        if (figureKey != 10 * n() + v) {
            figureKey = 10 * n() + v;
            figureTable = new int[worlds()][n()];
            for (int w = 0; w < worlds(); w++) {
                int rest = w;
                for (int i = n() - 1; i >= 0; i--) {
                    figureTable[w][i] = rest % v;
                    rest /= v;
                }
            }
        }
        return figureTable[code];
    }

    int world() {
        int code = 0;
        for (int x : notices) {
            code = code * v + x;
        }
        return code;
    }

    boolean apart0(int p, int w, int x) {
        int[] a = figures(w);
        int[] b = figures(x);
        for (int q = 0; q < n(); q++) {
            if (sees[p][q] && a[q] != b[q]) {
                return true;
            }
        }
        for (int[] row : came.get(p)) {
            if (row[w] != row[x]) {
                return true;
            }
        }
        return false;
    }

    List<Integer> held(int p, int w) {
        List<Integer> l = new ArrayList<>();
        for (int x = 0; x < worlds(); x++) {
            if (left[x] && !apart0(p, w, x)) {
                l.add(x);
            }
        }
        return l;
    }

    int possibleIn(int p, int whose, int w) {
        int bits = 0;
        for (int x : held(p, w)) {
            bits |= 1 << figures(x)[whose];
        }
        return bits;
    }

    boolean knowsIn(int p, int whose, int w) {
        return Integer.bitCount(possibleIn(p, whose, w)) == 1;
    }

    boolean sureIn(int p, int w) {
        return knowsIn(p, p, w);
    }

    boolean sureNow(int p) {
        return sureIn(p, world());
    }

    int sureBits() {
        int b = 0;
        for (int p = 0; p < n(); p++) {
            if (sureNow(p)) {
                b |= 1 << p;
            }
        }
        return b;
    }

    int mannerIn(int who, int whom, int w) {
        if (rule == null) {
            return 0;
        }
        return rule.value(figures(w)[whom], who, whom, day, sureIn(who, w), sees[whom][who]);
    }

    // ---- checks

    void person0(int... ps) {
        for (int p : ps) {
            if (p < 0 || p >= n()) {
                throw new IndexOutOfBoundsException();
            }
        }
    }

    void personOrNone(int p) {
        if (p != -1) {
            person0(p);
        }
    }

    void world0(int w) {
        if (w < 0 || w >= worlds()) {
            throw new IndexOutOfBoundsException();
        }
    }

    void notice0(int x) {
        if (x < 0 || x >= v) {
            throw new IndexOutOfBoundsException();
        }
    }

    void state(boolean good) {
        if (!good) {
            throw new IllegalStateException();
        }
    }

    void argument(boolean good) {
        if (!good) {
            throw new IllegalArgumentException();
        }
    }

    // ---- tape and texts

    int feed(int[] five) {
        if (tape.length + 20 > 400) {
            return -1;
        }
        int at = tape.length;
        tape = Arrays.copyOf(tape, at + 20);
        for (int i = 0; i < 20; i++) {
            tape[at + i] = (byte) (five[i / 4] >> 24 - i % 4 * 8);
        }
        return tape.length;
    }

    boolean end(int k) {
        if (k < 0 || k > tape.length) {
            return false;
        }
        tape = Arrays.copyOf(tape, k);
        return true;
    }

    byte[] used() {
        byte[] b = tape;
        tape = new byte[0];
        return b;
    }

    int village() {
        byte[] text = used();
        Model m = copy();
        try {
            new VillageText(text, m).read();
            fault = -1;
        } catch (Wrong e) {
            fault = e.at;
            throw new IllegalArgumentException();
        }
        if (texts >= 12) {
            throw new UnsupportedOperationException();
        }
        m.texts++;
        take(m);
        past.clear();
        return texts;
    }

    int law() {
        byte[] text = used();
        try {
            rule = new LawText(text).read();
            fault = -1;
        } catch (Wrong e) {
            fault = e.at;
            throw new IllegalArgumentException();
        }
        past.clear();
        return rule.amounts.size();
    }

    // ---- acts

    void remember() {
        past.add(copy());
        if (past.size() > 8) {
            past.remove(0);
        }
        closed = true;
    }

    void row(int kind, int who, int whom, int what) {
        log.add(new int[] {kind, who, whom, what, sureBits()});
        if (log.size() > 60) {
            log.remove(0);
        }
    }

    int treat0(int who, int whom, boolean all) {
        int[] manners = new int[worlds()];
        for (int w = 0; w < worlds(); w++) {
            if (left[w]) {
                manners[w] = mannerIn(who, whom, w);
            }
        }
        for (int p = 0; p < n(); p++) {
            if (all || p == whom) {
                came.get(p).add(manners);
            }
        }
        row(all ? 1 : 0, who, whom, manners[world()]);
        return manners[world()];
    }

    int turn0(int who, int whom) {
        sees[who][whom] = true;
        row(2, who, whom, notices.get(whom));
        return notices.get(whom);
    }

    interface Answer {
        int in(int w);
    }

    int hear(Answer a) {
        int[] says = new int[worlds()];
        for (int w = 0; w < worlds(); w++) {
            if (left[w]) {
                says[w] = a.in(w);
            }
        }
        for (int w = 0; w < worlds(); w++) {
            left[w] &= says[w] == says[world()];
        }
        return says[world()];
    }

    int ask0(int p) {
        int a = hear(w -> sureIn(p, w) ? 1 : 0);
        row(3, p, -1, a);
        return a;
    }

    int day0() {
        int a = hear(w -> {
            int b = 0;
            for (int p = 0; p < n(); p++) {
                b |= sureIn(p, w) ? 1 << p : 0;
            }
            return b;
        });
        day++;
        row(4, -1, -1, a);
        return a;
    }

    int read0(int p) {
        int a = hear(w -> figures(w)[p]);
        row(5, p, -1, a);
        return a;
    }

    int manyIn(int w, int notice) {
        int k = 0;
        for (int x : figures(w)) {
            k += x == notice ? 1 : 0;
        }
        return k;
    }

    int claim0(int k, int notice) {
        hear(w -> manyIn(w, notice) >= k ? 1 : 0);
        row(6, notice, -1, k);
        return manyIn(world(), notice);
    }

    int query0(int who, int whose, int notice) {
        int a = hear(w -> {
            int b = possibleIn(who, whose, w);
            return b == 1 << notice ? 1 : (b >> notice & 1) == 0 ? 0 : 2;
        });
        row(7, who, whose, a);
        return a;
    }

    int draw() {
        seed = 1103515245 * seed + 12345;
        return seed >> 16 & 32767;
    }

    int stroll0(int k) {
        int treated = 0;
        for (int i = 0; i < k && n() > 0; i++) {
            int who = draw() % n();
            int whom = draw() % n();
            if (who != whom && sees[who][whom]) {
                treat0(who, whom, false);
                treated++;
            }
        }
        return treated;
    }

    // ---- the face

    /** The answer to a call of the face, as a text. */
    long call(String name, int a, int b, int c) {
        switch (name) {
            case "village":
                return village();
            case "law":
                return law();
            case "fault":
                return fault;
            case "person":
                return person(a, b);
            case "left":
                world0(a);
                return left[a] ? 1 : 0;
            case "apart":
                person0(a);
                world0(b);
                world0(c);
                state(left[b] && left[c]);
                return apart0(a, b, c) ? 1 : 0;
            case "sure":
                person0(a);
                world0(b);
                state(left[b]);
                return sureIn(a, b) ? 1 : 0;
            case "manner":
                person0(a, b);
                world0(c);
                argument(a != b);
                state(left[c] && sees[a][b]);
                return mannerIn(a, b, c);
            case "treat":
                person0(a, b);
                argument(a != b);
                state(sees[a][b]);
                remember();
                return treat0(a, b, c != 0);
            case "turn":
                person0(a, b);
                remember();
                return turn0(a, b);
            case "ask":
                person0(a);
                remember();
                return ask0(a);
            case "day":
                remember();
                return day0();
            case "read":
                person0(a);
                remember();
                return read0(a);
            case "claim":
                notice0(b);
                argument(a >= 0 && a <= 9);
                state(manyIn(world(), b) >= a);
                remember();
                return claim0(a, b);
            case "query":
                person0(a, b);
                notice0(c);
                remember();
                return query0(a, b, c);
            case "stroll":
                argument(a >= 1 && a <= 30);
                remember();
                return stroll0(a);
            case "log":
                if (b < 0 || b > 4) {
                    throw new NoSuchElementException();
                }
                return a < 0 || a >= log.size() ? -1 : log.get(log.size() - 1 - a)[b];
            case "seed": {
                int s = seed;
                seed = a;
                return s;
            }
            case "undo":
                if (past.isEmpty()) {
                    return 0;
                }
                take(past.remove(past.size() - 1));
                closed = true;
                return 1;
            case "image":
                kept = copy();
                return 0;
            case "back":
                if (kept == null) {
                    return 0;
                }
                take(kept);
                past.clear();
                return 1;
            case "count":
                return count(a);
            default:
                return look(name, a, b, c);
        }
    }

    private long count(int a) {
        int k = 0;
        switch (a) {
            case 0:
                return n();
            case 1:
                return v;
            case 2:
                return texts;
            case 3:
                return rule == null ? -1 : rule.amounts.size();
            case 4:
                return day;
            case 5:
                return worlds();
            case 6:
                for (boolean l : left) {
                    k += l ? 1 : 0;
                }
                return k;
            case 7:
                return world();
            case 8:
                return sureBits();
            case 9:
                return log.size();
            case 10:
                return past.size();
            default:
                return -1;
        }
    }

    private long person(int p, int what) {
        person0(p);
        int b = 0;
        switch (what) {
            case 0:
                return notices.get(p);
            case 1:
                for (int q = 0; q < n(); q++) {
                    b |= sees[p][q] ? 1 << q : 0;
                }
                return b;
            case 2:
                for (int q = 0; q < n(); q++) {
                    b |= sees[q][p] ? 1 << q : 0;
                }
                return b;
            case 3:
                return sureNow(p) ? 1 : 0;
            case 4:
                return held(p, world()).size();
            case 5:
                for (int q = 0; q < n(); q++) {
                    b |= knowsIn(p, q, world()) ? 1 << q : 0;
                }
                return b;
            default:
                throw new NoSuchElementException();
        }
    }

    private long look(String name, int a, int b, int c) {
        switch (name) {
            case "possible":
                person0(a, b);
                return possibleIn(a, b, world());
            case "knows":
                person0(a, b);
                return knowsIn(a, b, world()) ? Integer.numberOfTrailingZeros(possibleIn(a, b, world())) : -1;
            case "thinks":
                person0(a, b, c);
                for (int w : held(a, world())) {
                    if (!knowsIn(b, c, w)) {
                        return 0;
                    }
                }
                return 1;
            case "common":
                person0(a);
                return common(a);
            case "muddy":
                personOrNone(a);
                return muddy(a);
            case "backs":
                person0(a);
                return backs(a);
            case "gives":
                person0(a);
                return gives(a);
            case "never":
                person0(a);
                return never(a);
            case "question":
                person0(a);
                return question(a);
            case "queries":
                person0(a);
                return queries(a);
            case "spill":
                person0(a);
                return spill(a);
            case "quiet": {
                int bits = 0;
                for (int p = 0; p < n(); p++) {
                    bits |= spill(p) == 0 ? 1 << p : 0;
                }
                return bits;
            }
            case "game":
                person0(a);
                return game(a, b != 0);
            case "steps":
                person0(a, b);
                return steps(a, b, n(), new boolean[n()]);
            case "trial":
                argument(a >= 0 && a <= 30);
                return trial(a, seed);
            case "span":
                argument(a >= 0 && a <= 30);
                return span(a, b != 0);
            case "nth":
                personOrNone(a);
                return nth(a, b);
            case "guess":
                person0(a);
                return guess(a, world());
            case "right":
                personOrNone(a);
                return right(a);
            case "rows":
                return rows(a);
            case "liars":
                return liars(a, b != 0);
            case "married":
                personOrNone(a);
                return married(a);
            case "led":
                person0(a);
                return led(a);
            case "widest":
                return widest();
            case "under":
                return under();
            default:
                throw new IllegalStateException(name);
        }
    }

    private int common(int whose) {
        boolean[] in = new boolean[worlds()];
        in[world()] = true;
        for (int round = 0; round < worlds(); round++) {
            boolean more = false;
            for (int w = 0; w < worlds(); w++) {
                for (int x = 0; in[w] && x < worlds(); x++) {
                    for (int p = 0; p < n() && !in[x] && left[x]; p++) {
                        if (!apart0(p, w, x)) {
                            in[x] = true;
                            more = true;
                        }
                    }
                }
            }
            if (!more) {
                break;
            }
        }
        int found = -1;
        for (int w = 0; w < worlds(); w++) {
            if (in[w]) {
                int f = figures(w)[whose];
                if (found != -1 && found != f) {
                    return -1;
                }
                found = f;
            }
        }
        return found;
    }

    private int muddy(int p) {
        Model m = copy();
        for (int d = 0; d <= 40; d++) {
            int b = m.sureBits();
            if (p == -1 ? b != 0 : (b >> p & 1) == 1) {
                return d;
            }
            int before = m.sizeLeft();
            m.day0();
            // from here on each day is as the one before
            if (m.sizeLeft() == before && m.sureBits() == b) {
                return -1;
            }
        }
        return -1;
    }

    private int sizeLeft() {
        int k = 0;
        for (boolean l : left) {
            k += l ? 1 : 0;
        }
        return k;
    }

    private boolean sureIfRead(int p, int set) {
        Model m = copy();
        for (int q = 0; q < n(); q++) {
            if ((set >> q & 1) == 1) {
                int now = q;
                m.hear(w -> m.figures(w)[now]);
            }
        }
        return m.sureNow(p);
    }

    private int backs(int p) {
        for (int size = 0; size <= n(); size++) {
            for (int set = 0; set < 1 << n(); set++) {
                if (Integer.bitCount(set) == size && (set >> p & 1) == 0 && sureIfRead(p, set)) {
                    return set;
                }
            }
        }
        return -2;
    }

    private int gives(int p) {
        int b = 0;
        for (int q = 0; q < n(); q++) {
            if (q != p && sees[q][p]) {
                Model m = copy();
                m.treat0(q, p, false);
                b |= m.sureNow(p) ? 1 << q : 0;
            }
        }
        return b;
    }

    private int never(int p) {
        int b = 0;
        for (int q = 0; q < n(); q++) {
            if (q != p && sees[q][p]) {
                Model m = copy();
                m.treat0(q, p, false);
                boolean ever = false;
                for (int w = 0; w < worlds(); w++) {
                    ever |= left[w] && !sureIn(p, w) && m.sureIn(p, w);
                }
                b |= ever ? 0 : 1 << q;
            }
        }
        return b;
    }

    private int question(int p) {
        if (sureNow(p)) {
            return -1;
        }
        for (int who = 0; who < n(); who++) {
            for (int whose = 0; whose < n(); whose++) {
                for (int x = 0; x < v; x++) {
                    if (who != p && whose != p) {
                        Model m = copy();
                        m.query0(who, whose, x);
                        if (m.sureNow(p)) {
                            return 100 * who + 10 * whose + x;
                        }
                    }
                }
            }
        }
        return -1;
    }

    private int queries(int p) {
        if (n() > 6) {
            return -3;
        }
        if (sureNow(p)) {
            return 0;
        }
        if (question(p) != -1) {
            return 1;
        }
        for (int who = 0; who < n(); who++) {
            for (int whose = 0; whose < n(); whose++) {
                for (int x = 0; x < v; x++) {
                    if (who != p && whose != p) {
                        Model m = copy();
                        m.query0(who, whose, x);
                        if (m.question(p) != -1) {
                            return 2;
                        }
                    }
                }
            }
        }
        return -1;
    }

    private int spill(int whose) {
        Model m = copy();
        m.read0(whose);
        return m.sureBits() & ~sureBits();
    }

    private int game(int p, boolean whom) {
        if (sureNow(p)) {
            return -2;
        }
        int best = -1;
        int most = -2;
        for (int q = 0; q < n(); q++) {
            if (q != p) {
                int value = moved(p, 1 << q);
                if (value > most) {
                    most = value;
                    best = q;
                }
            }
        }
        return whom ? best : best == -1 ? 0 : most;
    }

    /** What the one that has just read out the last of a set gets. */
    private int moved(int p, int set) {
        if (sureIfRead(p, set)) {
            return -1;
        }
        int most = -2;
        for (int q = 0; q < n(); q++) {
            if (q != p && (set >> q & 1) == 0) {
                most = Math.max(most, moved(p, set | 1 << q));
            }
        }
        return most == -2 ? 0 : -most;
    }

    private int steps(int from, int to, int deep, boolean[] been) {
        if (from == to) {
            return 0;
        }
        int best = -1;
        been[from] = true;
        for (int q = 0; q < n(); q++) {
            if (sees[from][q] && !been[q]) {
                int k = steps(q, to, deep - 1, been);
                if (k >= 0 && (best == -1 || k + 1 < best)) {
                    best = k + 1;
                }
            }
        }
        been[from] = false;
        return best;
    }

    private int trial(int k, int from) {
        Model m = copy();
        m.seed = from;
        m.stroll0(k);
        return m.sureBits();
    }

    private int span(int k, boolean most) {
        int lo = 99;
        int hi = -1;
        for (int s = 1; s <= 6; s++) {
            int c = Integer.bitCount(trial(k, s));
            lo = Math.min(lo, c);
            hi = Math.max(hi, c);
        }
        return most ? hi : lo;
    }

    private int nth(int p, int k) {
        List<Integer> l = new ArrayList<>();
        if (p != -1) {
            l = held(p, world());
        } else {
            for (int w = 0; w < worlds(); w++) {
                if (left[w]) {
                    l.add(w);
                }
            }
        }
        return k < 0 || k >= l.size() ? -1 : l.get(k);
    }

    private int guess(int p, int w) {
        int[] k = new int[v];
        for (int x : held(p, w)) {
            k[figures(x)[p]]++;
        }
        int best = 0;
        for (int x = 0; x < v; x++) {
            if (k[x] > k[best]) {
                best = x;
            }
        }
        return best;
    }

    private int right(int p) {
        int k = 0;
        for (int w = 0; w < worlds(); w++) {
            boolean good = left[w];
            for (int q = 0; q < n() && good; q++) {
                if (p == -1 || p == q) {
                    good = guess(q, w) == figures(w)[q];
                }
            }
            k += good ? 1 : 0;
        }
        return k;
    }

    private int rows(int k) {
        byte[] t = used();
        argument(t.length % 3 == 0);
        for (int i = 0; i < t.length; i += 3) {
            int a = (t[i] & 255) - 97;
            int b = (t[i + 1] & 255) - 97;
            argument(a >= 0 && a < n() && b >= 0 && b < n() && a != b && (t[i + 2] == 0 || t[i + 2] == 1));
        }
        argument(k >= -1);
        if (n() > 7) {
            return -3;
        }
        int[] count = {0};
        int[] first = new int[n()];
        orders(t, new int[n()], 0, count, first);
        return k == -1 ? count[0] : count[0] == 0 || k >= n() ? -1 : first[k];
    }

    private void orders(byte[] t, int[] row, int many, int[] count, int[] first) {
        if (many == n()) {
            int[] place = new int[n()];
            for (int i = 0; i < n(); i++) {
                place[row[i]] = i;
            }
            for (int i = 0; i < t.length; i += 3) {
                boolean sight = place[t[i] - 97] < place[t[i + 1] - 97];
                if (sight != (t[i + 2] == 1)) {
                    return;
                }
            }
            if (count[0]++ == 0) {
                System.arraycopy(row, 0, first, 0, n());
            }
            return;
        }
        next:
        for (int p = 0; p < n(); p++) {
            for (int i = 0; i < many; i++) {
                if (row[i] == p) {
                    continue next;
                }
            }
            row[many] = p;
            orders(t, row, many + 1, count, first);
        }
    }

    private int liars(int k, boolean who) {
        byte[] t = used();
        argument(t.length % 3 == 0);
        for (int i = 0; i < t.length; i += 3) {
            int a = (t[i] & 255) - 97;
            int b = (t[i + 1] & 255) - 97;
            argument(a >= 0 && a < n() && b >= 0 && b < n() && t[i + 2] >= 0 && t[i + 2] < v);
        }
        argument(k >= 0 && k <= 9);
        int many = 0;
        int all = 0;
        for (int w = 0; w < worlds(); w++) {
            if (!left[w]) {
                continue;
            }
            boolean[] lied = new boolean[10];
            int c = 0;
            int bits = 0;
            for (int i = 0; i < t.length; i += 3) {
                int a = t[i] - 97;
                if (figures(w)[t[i + 1] - 97] != t[i + 2] && !lied[a]) {
                    lied[a] = true;
                    c++;
                    bits |= 1 << a;
                }
            }
            if (c <= k) {
                many++;
                all |= bits;
            }
        }
        return who ? all : many;
    }

    private int married(int p) {
        int[] with = new int[n()];
        Arrays.fill(with, -1);
        int[] most = {-1};
        int[] first = new int[n()];
        marry(0, with, 0, most, first);
        return p == -1 ? most[0] : first[p];
    }

    /** Goes through all ways, that of the least partners first, nobody last; keeps the first of the most pairs. */
    private void marry(int p, int[] with, int pairs, int[] most, int[] first) {
        if (p == n()) {
            if (pairs > most[0]) {
                most[0] = pairs;
                System.arraycopy(with, 0, first, 0, n());
            }
            return;
        }
        if (with[p] != -1) {
            marry(p + 1, with, pairs, most, first);
            return;
        }
        for (int q = p + 1; q < n(); q++) {
            if (with[q] == -1 && knowsIn(p, q, world()) && knowsIn(q, p, world())) {
                with[p] = q;
                with[q] = p;
                marry(p + 1, with, pairs + 1, most, first);
                with[p] = -1;
                with[q] = -1;
            }
        }
        marry(p + 1, with, pairs, most, first);
    }

    private int led(int p) {
        int best = -1;
        for (int ago = 0; ago < log.size(); ago++) {
            boolean all = true;
            for (int i = 0; i <= ago; i++) {
                all &= (log.get(log.size() - 1 - i)[4] >> p & 1) == 1;
            }
            if (all) {
                best = ago;
            }
        }
        return best;
    }

    private int widest() {
        int best = -1;
        for (int p = 0; p < n(); p++) {
            if (best == -1 || held(p, world()).size() > held(best, world()).size()) {
                best = p;
            }
        }
        return best;
    }

    private int under() {
        int best = -1;
        int least = 0;
        for (int p = 0; p < n(); p++) {
            int k = 0;
            for (int q = 0; q < n(); q++) {
                k += Integer.bitCount(possibleIn(p, q, world()));
            }
            if (best == -1 || k < least) {
                best = p;
                least = k;
            }
        }
        return best;
    }

    // ---- texts, thing by thing

    static class Text {
        final byte[] bytes;
        int at;
        int begin;

        Text(byte[] bytes) {
            this.bytes = bytes;
            blanks();
        }

        void blanks() {
            while (at < bytes.length && bytes[at] == 32) {
                at++;
            }
            begin = at;
        }

        boolean over() {
            return at == bytes.length;
        }

        Wrong wrong() {
            return new Wrong(at);
        }

        String word() {
            int e = at;
            while (e < bytes.length && bytes[e] >= 97 && bytes[e] <= 122) {
                e++;
            }
            return new String(bytes, at, e - at);
        }

        boolean has(String w) {
            return word().equals(w);
        }

        void skip(String w) throws Wrong {
            if (!has(w)) {
                throw wrong();
            }
            at += w.length();
            blanks();
        }

        boolean hasSign(int c) {
            return !over() && bytes[at] == c;
        }

        void sign(int c) throws Wrong {
            if (!hasSign(c)) {
                throw wrong();
            }
            at++;
            blanks();
        }

        int number(int lo, int hi) throws Wrong {
            int e = at;
            while (e < bytes.length && bytes[e] >= 48 && bytes[e] <= 57) {
                e++;
            }
            if (e == at || e - at > 3) {
                throw wrong();
            }
            int x = Integer.parseInt(new String(bytes, at, e - at));
            if (x < lo || x > hi) {
                throw wrong();
            }
            at = e;
            blanks();
            return x;
        }
    }

    static final class VillageText extends Text {
        final Model m;

        VillageText(byte[] bytes, Model m) {
            super(bytes);
            this.m = m;
        }

        void read() throws Wrong {
            if (over()) {
                return;
            }
            for (int k = 1;; k++) {
                if (k > 14) {
                    throw wrong();
                }
                line();
                if (over()) {
                    return;
                }
                sign(';');
            }
        }

        void line() throws Wrong {
            int start = at;
            String w = word();
            switch (w) {
                case "values":
                    if (m.closed || m.n() > 0) {
                        throw wrong();
                    }
                    skip(w);
                    m.v = number(2, 4);
                    break;
                case "person":
                    if (m.closed || m.worlds() * m.v > 512) {
                        throw wrong();
                    }
                    skip(w);
                    m.notices.add(number(0, m.v - 1));
                    m.came.add(new ArrayList<>());
                    m.left = new boolean[m.worlds()];
                    Arrays.fill(m.left, true);
                    break;
                case "sees": {
                    skip(w);
                    int p = number(0, m.n() - 1);
                    int here = at;
                    int q = number(0, m.n() - 1);
                    if (p == q) {
                        throw new Wrong(here);
                    }
                    m.sees[p][q] = true;
                    m.closed = true;
                    break;
                }
                case "least":
                case "most": {
                    skip(w);
                    int k = number(0, 9);
                    skip("have");
                    int x = number(0, m.v - 1);
                    told(start, c -> (w.equals("least") ? m.manyIn(c, x) >= k : m.manyIn(c, x) <= k) ? 1 : 0);
                    break;
                }
                case "alike":
                case "unlike": {
                    skip(w);
                    int p = number(0, m.n() - 1);
                    int here = at;
                    int q = number(0, m.n() - 1);
                    if (p == q) {
                        throw new Wrong(here);
                    }
                    told(start, c -> (m.figures(c)[p] == m.figures(c)[q]) == w.equals("alike") ? 1 : 0);
                    break;
                }
                default:
                    throw wrong();
            }
        }

        void told(int start, Answer a) throws Wrong {
            if (a.in(m.world()) != 1) {
                throw new Wrong(start);
            }
            for (int c = 0; c < m.worlds(); c++) {
                m.left[c] &= a.in(c) == 1;
            }
            m.closed = true;
        }
    }

    interface Condition {
        boolean holds(int theirs, int who, int whom, int day, boolean sure, boolean seen);
    }

    interface Sum {
        int of(int theirs, int who, int whom, int day);
    }

    static final class LawTree {
        final List<Integer> amounts = new ArrayList<>();
        final List<Condition> conditions = new ArrayList<>();

        int value(int theirs, int who, int whom, int day, boolean sure, boolean seen) {
            int sum = 0;
            for (int i = 0; i < amounts.size(); i++) {
                if (conditions.get(i).holds(theirs, who, whom, day, sure, seen)) {
                    sum += amounts.get(i);
                }
            }
            return sum;
        }
    }

    static final class LawText extends Text {
        LawText(byte[] bytes) {
            super(bytes);
        }

        LawTree read() throws Wrong {
            LawTree l = new LawTree();
            if (over()) {
                return l;
            }
            for (int k = 1;; k++) {
                if (k > 12) {
                    throw wrong();
                }
                skip("act");
                l.amounts.add(number(0, 999));
                if (has("if")) {
                    skip("if");
                    l.conditions.add(any(0));
                } else {
                    l.conditions.add((t, a, b, d, s, z) -> true);
                }
                if (over()) {
                    return l;
                }
                sign(';');
            }
        }

        Condition any(int deep) throws Wrong {
            Condition c = all(deep);
            while (has("or")) {
                skip("or");
                Condition x = c;
                Condition y = all(deep);
                c = (t, a, b, d, s, z) -> x.holds(t, a, b, d, s, z) || y.holds(t, a, b, d, s, z);
            }
            return c;
        }

        Condition all(int deep) throws Wrong {
            Condition c = atom(deep);
            while (has("and")) {
                skip("and");
                Condition x = c;
                Condition y = atom(deep);
                c = (t, a, b, d, s, z) -> x.holds(t, a, b, d, s, z) && y.holds(t, a, b, d, s, z);
            }
            return c;
        }

        Condition atom(int deep) throws Wrong {
            if ((has("not") || hasSign('(')) && deep == 6) {
                throw wrong();
            }
            if (has("not")) {
                skip("not");
                Condition x = atom(deep + 1);
                return (t, a, b, d, s, z) -> !x.holds(t, a, b, d, s, z);
            }
            if (hasSign('(')) {
                sign('(');
                Condition x = any(deep + 1);
                sign(')');
                return x;
            }
            if (has("sure")) {
                skip("sure");
                return (t, a, b, d, s, z) -> s;
            }
            if (has("seen")) {
                skip("seen");
                return (t, a, b, d, s, z) -> z;
            }
            Sum l = sum();
            boolean less = hasSign('<');
            sign(less ? '<' : '>');
            Sum r = sum();
            return (t, a, b, d, s, z) -> less ? l.of(t, a, b, d) < r.of(t, a, b, d) : l.of(t, a, b, d) > r.of(t, a, b, d);
        }

        Sum sum() throws Wrong {
            Sum l = part();
            while (hasSign('+')) {
                sign('+');
                Sum x = l;
                Sum y = part();
                l = (t, a, b, d) -> x.of(t, a, b, d) + y.of(t, a, b, d);
            }
            return l;
        }

        Sum part() throws Wrong {
            switch (word()) {
                case "theirs":
                    skip("theirs");
                    return (t, a, b, d) -> t;
                case "who":
                    skip("who");
                    return (t, a, b, d) -> a;
                case "whom":
                    skip("whom");
                    return (t, a, b, d) -> b;
                case "day":
                    skip("day");
                    return (t, a, b, d) -> d;
                default: {
                    int x = number(0, 999);
                    return (t, a, b, d) -> x;
                }
            }
        }
    }
}
