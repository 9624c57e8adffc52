import java.util.ArrayList;
import java.util.Arrays;
import java.util.HashMap;
import java.util.List;
import java.util.Map;
import java.util.NoSuchElementException;

/** The document said once more, as plainly and slowly as can be, to compare the program with. */
final class Oracle {
    static final int NONE = -1;

    private static final class Snap {
        List<int[]> tower = new ArrayList<>();
        int mover;
        int feller = NONE;
        int reason;
        int whyLayer;
        int whyMargin;

        Snap copy() {
            Snap s = new Snap();
            s.tower = copyOf(tower);
            s.mover = mover;
            s.feller = feller;
            s.reason = reason;
            s.whyLayer = whyLayer;
            s.whyMargin = whyMargin;
            return s;
        }
    }

    private String text = "";
    private List<Long> row = new ArrayList<>();
    private Snap now = new Snap();
    private final List<Snap> undos = new ArrayList<>();
    private final Snap[] kept = new Snap[3];
    private final int[] tilt = new int[2];
    private String rule = "h*t";
    private int[] hands = {1, 1};
    private final List<int[]> felt = new ArrayList<>();
    private final Map<Integer, int[]> known = new HashMap<>();

    static List<int[]> copyOf(List<int[]> t) {
        List<int[]> c = new ArrayList<>();
        for (int[] l : t) c.add(l.clone());
        return c;
    }

    private void tell(long... numbers) {
        row = new ArrayList<>();
        for (long n : numbers) row.add(n);
    }

    private void tellAll(List<Integer> numbers, int most) {
        row = new ArrayList<>();
        for (int i = 0; i < numbers.size() && i < most; i++) row.add((long) numbers.get(i));
    }

    // ---- the tower

    int sign(int v) {
        if (text.length() + 4 > 80) return NONE;
        for (int i = 3; i >= 0; i--) text += (char) ((v >> (8 * i)) & 0xff);
        return text.length();
    }

    boolean end(int n) {
        if (n < 0 || n > text.length()) return false;
        text = text.substring(0, n);
        return true;
    }

    private String read() {
        String t = text;
        text = "";
        return t;
    }

    int tower() {
        String s = read();
        List<int[]> t = new ArrayList<>();
        int p = 0;
        while (p < s.length() || p > 0 && s.charAt(p - 1) == '/') {
            if (t.size() == 16) return -1 - p;
            int[] l = new int[3];
            for (int i = 0; i < 3; i++, p++) {
                if (p >= s.length()) return -1 - p;
                char c = s.charAt(p);
                if (c == '.') l[i] = -1;
                else if (c >= '0' && c <= '9') l[i] = c - '0';
                else return -1 - p;
                if (i == 2 && l[0] < 0 && l[1] < 0 && l[2] < 0) return -1 - p;
            }
            t.add(l);
            if (p == s.length()) break;
            if (s.charAt(p) != '/') return -1 - p;
            p++;
        }
        now = new Snap();
        now.tower = t;
        felt.clear();
        known.clear();
        undos.clear();
        return t.size();
    }

    /** Recursive reading with values at once; position of the first wrong sign in bad. */
    private final class Reader {
        final String s;
        final Map<Character, Integer> facts;
        int p = 0;
        int bad = -1;

        Reader(String s, Map<Character, Integer> facts) {
            this.s = s;
            this.facts = facts;
        }

        char peek() {
            return p < s.length() ? s.charAt(p) : (char) 999;
        }

        void fail() {
            if (bad < 0) bad = p;
        }

        int compare(int depth) {
            int a = sum(depth);
            if (bad < 0 && "<>=".indexOf(peek()) >= 0) {
                char o = s.charAt(p++);
                int b = sum(depth);
                return (o == '<' ? a < b : o == '>' ? a > b : a == b) ? 1 : 0;
            }
            return a;
        }

        int sum(int depth) {
            int a = product(depth);
            while (bad < 0 && "+-".indexOf(peek()) >= 0) {
                char o = s.charAt(p++);
                int b = product(depth);
                a = o == '+' ? a + b : a - b;
            }
            return a;
        }

        int product(int depth) {
            int a = unary(depth);
            while (bad < 0 && "*/".indexOf(peek()) >= 0) {
                char o = s.charAt(p++);
                int b = unary(depth);
                a = o == '*' ? a * b : b == 0 ? 0 : a / b;
            }
            return a;
        }

        int unary(int depth) {
            if (bad < 0 && peek() == '-') {
                p++;
                return -unary(depth);
            }
            return thing(depth);
        }

        int thing(int depth) {
            if (bad >= 0) return 0;
            char c = peek();
            if (c == '(' && depth < 4) {
                p++;
                int v = compare(depth + 1);
                if (bad < 0) {
                    if (peek() == ')') p++;
                    else fail();
                }
                return v;
            }
            if (c >= '0' && c <= '9') {
                int v = 0;
                for (int n = 0; n < 3 && peek() >= '0' && peek() <= '9'; n++) v = 10 * v + s.charAt(p++) - '0';
                return v;
            }
            if ("tklpqgnmhj".indexOf(c) >= 0) {
                p++;
                return facts == null ? 1 : facts.get(c);
            }
            fail();
            return 0;
        }
    }

    int rule() {
        String s = read();
        if (s.isEmpty()) {
            rule = "h*t";
            return 0;
        }
        Reader r = new Reader(s.length() > 40 ? s.substring(0, 40) : s, null);
        r.compare(0);
        if (r.bad < 0 && r.p < r.s.length()) r.bad = r.p;
        if (r.bad >= 0) return -1 - r.bad;
        if (s.length() > 40) return -41;
        rule = s;
        return 0;
    }

    int players() {
        String s = read();
        if (s.isEmpty()) return -1;
        for (int i = 0; i < s.length(); i++) {
            if (i == 4) return -5;
            if (s.charAt(i) < '0' || s.charAt(i) > '9') return -1 - i;
        }
        hands = new int[s.length()];
        for (int i = 0; i < s.length(); i++) hands[i] = s.charAt(i) - '0';
        now.mover = 0;
        return s.length();
    }

    private static boolean there(List<int[]> t, int b) {
        return b >= 0 && b < 3 * t.size() && t.get(b / 3)[b % 3] >= 0;
    }

    private static int blocks(int[] l) {
        int n = 0;
        for (int v : l) if (v >= 0) n++;
        return n;
    }

    static int bears(int[] l) {
        int most = -1;
        for (int v : l) most = Math.max(most, v);
        List<Integer> who = new ArrayList<>();
        for (int p = 0; p < 3; p++) if (l[p] >= 0 && l[p] == most) who.add(p);
        if (who.size() == 1 && who.get(0) != 1) {
            int second = -1;
            for (int p = 0; p < 3; p++) if (p != who.get(0)) second = Math.max(second, l[p]);
            for (int p = 0; p < 3; p++) if (l[p] >= 0 && l[p] == second) who.add(p);
        }
        int bits = 0;
        for (int p : who) bits |= 1 << p;
        return bits;
    }

    private static int weightAbove(List<int[]> t, int l) {
        int w = 0;
        for (int a = l + 1; a < t.size(); a++) for (int v : t.get(a)) if (v >= 0) w += v + 10;
        return w;
    }

    private int pull(List<int[]> t, int l) {
        int s = 0;
        for (int a = l + 1; a < t.size(); a++) {
            for (int p = 0; p < 3; p++) {
                int v = t.get(a)[p];
                if (v < 0) continue;
                if (a % 2 == l % 2) s += 10 * (v + 10) * (p - 1);
                s += tilt[l % 2] * (v + 10) * (a - l);
            }
        }
        return s;
    }

    private static int lowest(int bits) {
        for (int p = 0; p < 3; p++) if ((bits >> p & 1) == 1) return p;
        return 0;
    }

    private static int highest(int bits) {
        for (int p = 2; p >= 0; p--) if ((bits >> p & 1) == 1) return p;
        return 0;
    }

    private int margin(List<int[]> t, int l) {
        if (l == t.size() - 1) return 0;
        int w = weightAbove(t, l);
        int bits = bears(t.get(l));
        int left = 10 * w * (2 * (lowest(bits) - 1) - 1);
        int right = 10 * w * (2 * (highest(bits) - 1) + 1);
        int s = 2 * pull(t, l);
        return Math.min(s - left, right - s);
    }

    private int broken(List<int[]> t) {
        for (int l = 0; l < t.size(); l++) if (margin(t, l) < 0) return l;
        return NONE;
    }

    private int leastMargin(List<int[]> t) {
        int least = 0;
        for (int l = 0; l + 1 < t.size(); l++) least = l == 0 ? margin(t, l) : Math.min(least, margin(t, l));
        return least;
    }

    int block(int b, int what) {
        if (!there(now.tower, b) || what < 0 || what > 4) throw new NoSuchElementException();
        int v = now.tower.get(b / 3)[b % 3];
        if (what == 0) return v;
        if (what == 1) return v + 10;
        if (what == 2) return bears(now.tower.get(b / 3)) >> b % 3 & 1;
        if (what == 3) {
            int n = 0;
            for (int l = b / 3 + 1; l < now.tower.size(); l++) n += blocks(now.tower.get(l));
            return n;
        }
        if (blocks(now.tower.get(b / 3)) == 1) return 0;
        List<int[]> t = copyOf(now.tower);
        t.get(b / 3)[b % 3] = -1;
        return broken(t) == NONE ? 1 : 0;
    }

    int layer(int l, int what) {
        if (l < 0 || l >= now.tower.size() || what < 0 || what > 6) throw new NoSuchElementException();
        int bits = bears(now.tower.get(l));
        switch (what) {
            case 0: return blocks(now.tower.get(l));
            case 1: return weightAbove(now.tower, l);
            case 2: return pull(now.tower, l);
            case 3: return margin(now.tower, l);
            case 4: return lowest(bits);
            case 5: return highest(bits);
            default: return bits;
        }
    }

    int plane(int b, int v) {
        if (!there(now.tower, b) || v < 0 || v > 9) return NONE;
        int was = now.tower.get(b / 3)[b % 3];
        now.tower.get(b / 3)[b % 3] = v;
        return was;
    }

    int sheet(int kind, int n, int f, int step) {
        if (kind < 0 || kind > 3 || n > 48) return NONE;
        if (kind < 3 && n < 0) return -2;
        int sum = 0;
        List<Integer> entries = new ArrayList<>();
        for (int i = 0, e = f; kind < 3 && i < n; i++, e += step) entries.add(kind == 0 ? (byte) e : kind == 1 ? (short) e : e);
        for (int b = 0; b < 3 * now.tower.size(); b++) {
            if (!there(now.tower, b)) continue;
            int v = entries.isEmpty() ? 0 : entries.remove(0);
            v = v < 0 ? 0 : v > 9 ? 9 : v;
            now.tower.get(b / 3)[b % 3] = v;
            sum += v;
        }
        return kind == 3 ? -3 : sum;
    }

    boolean table(int which, int v) {
        if (which < 0 || which > 1 || v < -9 || v > 9) return false;
        tilt[which] = v;
        return true;
    }

    int swell(int l, int by) {
        if (l < 0 || l >= now.tower.size() || by < -9 || by > 9) return NONE;
        int n = 0;
        int[] layer = now.tower.get(l);
        for (int p = 0; p < 3; p++) {
            if (layer[p] < 0) continue;
            int v = Math.max(0, Math.min(9, layer[p] + by));
            if (v != layer[p]) n++;
            layer[p] = v;
        }
        return n;
    }

    int bump(int seed) {
        int r = seed * 1103515245 + 12345;
        tilt[0] = (int) (((r & 0xffffffffL) / 65536) % 19) - 9;
        r = r * 1103515245 + 12345;
        tilt[1] = (int) (((r & 0xffffffffL) / 65536) % 19) - 9;
        return broken(now.tower) == NONE ? 1 : 0;
    }

    // ---- what bears, what stands

    int stands() {
        int b = broken(now.tower);
        tell(b, leastMargin(now.tower));
        return b == NONE ? 1 : 0;
    }

    int loose() {
        int n = 0;
        row = new ArrayList<>();
        for (int[] l : now.tower) {
            int bits = 0;
            for (int p = 0; p < 3; p++) if (l[p] >= 0 && (bears(l) >> p & 1) == 0) bits |= 1 << p;
            n += Integer.bitCount(bits);
            row.add((long) bits);
        }
        return n;
    }

    int weakest() {
        if (now.tower.size() < 2) return -2;
        int least = leastMargin(now.tower);
        tell(least);
        for (int l = 0; ; l++) if (margin(now.tower, l) == least) return l;
    }

    int lean(int which) {
        if (which != 0 && which != 1) return -100000;
        int sum = 0;
        for (int l = which; l < now.tower.size(); l += 2) {
            for (int p = 0; p < 3; p++) if (now.tower.get(l)[p] >= 0) sum += (now.tower.get(l)[p] + 10) * (p - 1);
        }
        tell(weightAbove(now.tower, -1));
        return sum;
    }

    // ---- moves

    private static boolean can(List<int[]> t, int m) {
        if (m < 0) return false;
        int b = m / 10;
        int q = m % 10;
        if (q > 2 || !there(t, b)) return false;
        int top = t.size() - 1;
        if (b / 3 == top) return false;
        boolean full = blocks(t.get(top)) == 3;
        if (full) return t.size() < 16;
        return b / 3 != top - 1 && t.get(top)[q] < 0;
    }

    /** {reason, layer, margin}; after is the tower as it is then. */
    private int[] doMove(List<int[]> t, int m) {
        int b = m / 10;
        int[] l = t.get(b / 3);
        if (blocks(l) == 1) return new int[] {1, b / 3, 0};
        int v = l[b % 3];
        l[b % 3] = -1;
        if (broken(t) != NONE) return new int[] {2, broken(t), margin(t, broken(t))};
        if (blocks(t.get(t.size() - 1)) == 3) t.add(new int[] {-1, -1, -1});
        t.get(t.size() - 1)[m % 10] = v;
        if (broken(t) != NONE) return new int[] {3, broken(t), margin(t, broken(t))};
        return new int[] {0, 0, 0};
    }

    private List<int[]> after(List<int[]> t, int m) {
        List<int[]> c = copyOf(t);
        doMove(c, m);
        return c;
    }

    private boolean safe(List<int[]> t, int m) {
        return doMove(copyOf(t), m)[0] == 0;
    }

    /** For tests that want moves worth making. */
    boolean canBeNow(int m, boolean safely) {
        return !felled() && can(now.tower, m) && (!safely || safe(now.tower, m));
    }

    private List<Integer> safeMoves(List<int[]> t) {
        List<Integer> list = new ArrayList<>();
        for (int m = 0; m < 480; m++) if (can(t, m) && safe(t, m)) list.add(m);
        return list;
    }

    private int oddsOf(List<int[]> t, int m, int hand, int jerk) {
        if (!safe(t, m)) return 100;
        int b = m / 10;
        int[] l = t.get(b / 3);
        Map<Character, Integer> f = new HashMap<>();
        f.put('t', bears(l) >> b % 3 & 1);
        f.put('k', l[b % 3]);
        f.put('l', b / 3);
        f.put('p', b % 3);
        f.put('q', m % 10);
        f.put('g', 3 - blocks(l));
        f.put('n', t.size());
        f.put('m', margin(t, b / 3) / 100);
        f.put('h', hand);
        f.put('j', jerk);
        return Math.max(0, Math.min(100, new Reader(rule, f).compare(0)));
    }

    private boolean felled() {
        return now.reason != 0;
    }

    int moves() {
        int can = 0;
        List<Integer> safe = felled() ? new ArrayList<>() : safeMoves(now.tower);
        for (int m = 0; m < 1000; m++) if (!felled() && can(now.tower, m)) can++;
        tell(safe.isEmpty() ? NONE : safe.get(0), safe.isEmpty() ? NONE : safe.get(safe.size() - 1), can);
        return safe.size();
    }

    int odds(int m, int jerk) {
        if (jerk != 0 && jerk != 1) return NONE;
        if (felled() || !can(now.tower, m)) return -2;
        tell(safe(now.tower, m) ? 1 : 0);
        return oddsOf(now.tower, m, hands[now.mover], jerk);
    }

    /** {move, odds, jerk} or null. */
    private int[] bestOf(List<int[]> t, int hand) {
        int[] best = null;
        for (int m : safeMoves(t)) {
            for (int j = 0; j < 2; j++) {
                int[] c = {m, oddsOf(t, m, hand, j), j};
                if (best == null || c[1] * 10000 + c[2] * 1000 + c[0] < best[1] * 10000 + best[2] * 1000 + best[0]) best = c;
            }
        }
        return best;
    }

    int best() {
        int[] b = felled() ? null : bestOf(now.tower, hands[now.mover]);
        if (b == null) return -2;
        tell(b[1], b[2]);
        return b[0];
    }

    int leave() {
        int[] best = null;
        if (!felled()) {
            for (int m : safeMoves(now.tower)) {
                int[] c = {m, oddsOf(now.tower, m, hands[now.mover], 0), safeMoves(after(now.tower, m)).size()};
                if (best == null || c[2] * 1000000 + c[1] * 1000 + c[0] < best[2] * 1000000 + best[1] * 1000 + best[0]) best = c;
            }
        }
        if (best == null) return -2;
        tell(best[2], best[1]);
        return best[0];
    }

    int where(int b) {
        if (!there(now.tower, b)) return NONE;
        int place = -2;
        int best = 0;
        for (int q = 0; q < 3; q++) {
            int m = 10 * b + q;
            if (felled() || !can(now.tower, m) || !safe(now.tower, m)) continue;
            int margin = leastMargin(after(now.tower, m));
            if (place < 0 || margin > best) {
                place = q;
                best = margin;
            }
        }
        if (place >= 0) tell(best);
        return place;
    }

    private void push() {
        undos.add(now.copy());
        if (undos.size() > 15) undos.remove(0);
    }

    private void make(int m) {
        int[] r = doMove(now.tower, m);
        if (r[0] != 0) {
            now.reason = r[0];
            now.whyLayer = r[1];
            now.whyMargin = r[2];
            now.feller = now.mover;
        }
        now.mover = (now.mover + 1) % hands.length;
    }

    int move(int m) {
        if (felled() || !can(now.tower, m)) return -2;
        push();
        make(m);
        return felled() ? 0 : 1;
    }

    int play() {
        String s = read();
        List<Integer> list = new ArrayList<>();
        String cut = s.length() > 70 ? s.substring(0, 70) : s;
        int p = 0;
        while (!s.isEmpty()) {
            int from = p;
            int l = 0;
            while (p < cut.length() && p < from + 2 && Character.isDigit(cut.charAt(p))) l = 10 * l + cut.charAt(p++) - '0';
            if (p == from) return -1 - p;
            if (p == cut.length() || "lmr".indexOf(cut.charAt(p)) < 0) return -1 - p;
            int b = 3 * l + "lmr".indexOf(cut.charAt(p++));
            if (p == cut.length() || cut.charAt(p) != '>') return -1 - p;
            p++;
            if (p == cut.length() || "lmr".indexOf(cut.charAt(p)) < 0) return -1 - p;
            list.add(10 * b + "lmr".indexOf(cut.charAt(p++)));
            if (p == cut.length()) break;
            if (cut.charAt(p) != ';') return -1 - p;
            p++;
        }
        if (s.length() > 70) return -71;
        int done = 0;
        int cannot = 0;
        for (int m : list) {
            if (felled() && done > 0) break;
            if (felled() || !can(now.tower, m)) {
                cannot = 1;
                break;
            }
            if (done == 0) push();
            make(m);
            done++;
        }
        tell(cannot, felled() ? 1 : 0);
        return done;
    }

    int undo() {
        if (undos.isEmpty()) return NONE;
        now = undos.remove(undos.size() - 1);
        now.mover %= hands.length;
        return undos.size();
    }

    int why() {
        if (felled()) tell(now.whyLayer, now.whyMargin);
        else tell();
        return now.reason;
    }

    // ---- games

    private static final class Node {
        List<int[]> tower;
        List<Integer> path;
        final List<Integer> moves = new ArrayList<>();
        final List<Node> next = new ArrayList<>();
        Boolean wins;
        List<Integer> longest;
        List<Integer> shortest;
    }

    private final List<Node> nodes = new ArrayList<>();
    private boolean more;

    private static String name(List<int[]> t) {
        StringBuilder s = new StringBuilder();
        for (int[] l : t) s.append(Arrays.toString(l));
        return s.toString();
    }

    private static boolean less(List<Integer> a, List<Integer> b) {
        for (int i = 0; i < a.size() && i < b.size(); i++) if (!a.get(i).equals(b.get(i))) return a.get(i) < b.get(i);
        return a.size() < b.size();
    }

    private void search() {
        nodes.clear();
        more = false;
        Map<String, Node> byName = new HashMap<>();
        Node root = new Node();
        root.tower = copyOf(now.tower);
        root.path = new ArrayList<>();
        nodes.add(root);
        byName.put(name(root.tower), root);
        if (felled()) return;
        for (int i = 0; i < nodes.size(); i++) {
            Node n = nodes.get(i);
            for (int m : safeMoves(n.tower)) {
                List<int[]> t = after(n.tower, m);
                List<Integer> path = new ArrayList<>(n.path);
                path.add(m);
                Node c = byName.get(name(t));
                if (c == null) {
                    if (nodes.size() == 400) {
                        more = true;
                        return;
                    }
                    c = new Node();
                    c.tower = t;
                    c.path = path;
                    nodes.add(c);
                    byName.put(name(t), c);
                } else if (path.size() < c.path.size() || path.size() == c.path.size() && less(path, c.path)) {
                    c.path = path;
                }
                n.moves.add(m);
                n.next.add(c);
            }
        }
    }

    private boolean winsAt(Node n) {
        if (n.wins == null) {
            n.wins = false;
            for (Node c : n.next) if (!winsAt(c)) n.wins = true;
        }
        return n.wins;
    }

    private List<Integer> run(Node n, boolean longest) {
        List<Integer> best = longest ? n.longest : n.shortest;
        if (best != null) return best;
        for (int i = 0; i < n.next.size(); i++) {
            List<Integer> path = new ArrayList<>();
            path.add(n.moves.get(i));
            path.addAll(run(n.next.get(i), longest));
            if (best == null || (longest ? path.size() > best.size() : path.size() < best.size())
                || path.size() == best.size() && less(path, best)) best = path;
        }
        if (best == null) best = new ArrayList<>();
        if (longest) n.longest = best;
        else n.shortest = best;
        return best;
    }

    int wins() {
        search();
        if (more) return -3;
        Node root = nodes.get(0);
        int least = NONE;
        for (int i = root.next.size() - 1; i >= 0; i--) if (!winsAt(root.next.get(i))) least = root.moves.get(i);
        tell(least);
        return winsAt(root) ? 1 : 0;
    }

    int longest() {
        search();
        if (more) return -3;
        List<Integer> path = run(nodes.get(0), true);
        tellAll(path, 10);
        return path.size();
    }

    int shortest() {
        search();
        if (more) return -3;
        List<Integer> path = run(nodes.get(0), false);
        tellAll(path, 10);
        return path.size();
    }

    int high() {
        search();
        if (more) return -3;
        Node best = null;
        for (Node n : nodes) {
            if (best == null || n.tower.size() > best.tower.size()
                || n.tower.size() == best.tower.size() && (n.path.size() < best.path.size()
                || n.path.size() == best.path.size() && less(n.path, best.path))) best = n;
        }
        tell(best.path.size(), best.path.isEmpty() ? NONE : best.path.get(0));
        return best.tower.size();
    }

    int towers() {
        search();
        if (more) return -3;
        int ends = 0;
        for (Node n : nodes) if (n.next.isEmpty()) ends++;
        tell(ends);
        return nodes.size();
    }

    int free(int b) {
        if (b < 0 || b >= 3 * now.tower.size()) return NONE;
        search();
        Node best = null;
        for (Node n : nodes) {
            if (n.tower.get(b / 3)[b % 3] >= 0) continue;
            if (best == null || n.path.size() < best.path.size()
                || n.path.size() == best.path.size() && less(n.path, best.path)) best = n;
        }
        if (best == null) return more ? -3 : -2;
        tellAll(best.path, 10);
        return best.path.size();
    }

    // ---- chances

    private static long gcd(long a, long b) {
        return b == 0 ? a : gcd(b, a % b);
    }

    int chance(int n) {
        if (n < 0 || n > 2) return NONE;
        long up = 0;
        int first = NONE;
        if (n == 0) {
            tell(1, 1, NONE);
            return 0;
        }
        int hand = hands[now.mover];
        int next = hands[(now.mover + 1) % hands.length];
        if (!felled()) {
            for (int m : safeMoves(now.tower)) {
                long c = 100 - Math.min(oddsOf(now.tower, m, hand, 0), oddsOf(now.tower, m, hand, 1));
                long rest = 100;
                if (n == 2) {
                    rest = 0;
                    List<int[]> t = after(now.tower, m);
                    for (int k : safeMoves(t)) {
                        for (int j = 0; j < 2; j++) rest = Math.max(rest, 100 - oddsOf(t, k, next, j));
                    }
                }
                if (c * rest > up) {
                    up = c * rest;
                    first = m;
                }
            }
        }
        long g = gcd(up, 10000);
        tell(up / g, 10000 / g, first);
        return 0;
    }

    int loser(int n) {
        if (n < 0 || n > 20) return NONE;
        int[] share = new int[hands.length];
        int left = 10000;
        List<int[]> t = copyOf(now.tower);
        int who = now.mover;
        for (int i = 0; i < n && !felled(); i++) {
            int[] b = bestOf(t, hands[who]);
            if (b == null) break;
            int lost = left * b[1] / 100;
            share[who] += lost;
            left -= lost;
            t = after(t, b[0]);
            who = (who + 1) % hands.length;
        }
        int worst = 0;
        for (int i = 1; i < share.length; i++) if (share[i] > share[worst]) worst = i;
        row = new ArrayList<>();
        for (int s : share) row.add((long) s);
        row.add((long) left);
        return worst;
    }

    // ---- what was felt

    int felt(int b, int tight) {
        if (!there(now.tower, b) || tight != 0 && tight != 1 || felt.size() == 20) return NONE;
        felt.add(new int[] {b, tight});
        return felt.size();
    }

    boolean known(int b, int low, int high) {
        if (!there(now.tower, b) || low < 0 || high > 9 || low > high) return false;
        known.put(b, new int[] {low, high});
        return true;
    }

    int forget() {
        int n = felt.size();
        felt.clear();
        known.clear();
        return n;
    }

    private List<int[]> fitting(int l) {
        List<int[]> list = new ArrayList<>();
        for (int i = 0; i < 1000; i++) {
            int[] v = {i / 100, i / 10 % 10, i % 10};
            boolean fits = true;
            for (int p = 0; p < 3; p++) {
                int b = 3 * l + p;
                if (!there(now.tower, b)) {
                    if (v[p] != 0) fits = false;
                    v[p] = -1;
                } else if (known.containsKey(b) && (v[p] < known.get(b)[0] || v[p] > known.get(b)[1])) {
                    fits = false;
                }
            }
            for (int[] f : felt) {
                if (f[0] / 3 == l && there(now.tower, f[0]) && (bears(v) >> f[0] % 3 & 1) != f[1]) fits = false;
            }
            if (fits) list.add(v);
        }
        return list;
    }

    int fits(int l) {
        if (l < 0 || l >= now.tower.size()) return NONE;
        List<int[]> list = fitting(l);
        row = new ArrayList<>();
        if (!list.isEmpty()) {
            for (int v : list.get(0)) if (v >= 0) row.add((long) v);
            for (int v : list.get(list.size() - 1)) if (v >= 0) row.add((long) v);
        }
        return list.size();
    }

    int span(int b) {
        if (!there(now.tower, b)) return NONE;
        int bits = 0;
        for (int[] v : fitting(b / 3)) bits |= 1 << v[b % 3];
        return bits;
    }

    int sure(int b) {
        if (!there(now.tower, b)) return NONE;
        List<int[]> list = fitting(b / 3);
        if (list.isEmpty()) return -2;
        int n = 0;
        for (int[] v : list) n += bears(v) >> b % 3 & 1;
        tell(n, list.size());
        return n == list.size() ? 1 : n == 0 ? 0 : 2;
    }

    int touch(int l) {
        if (l < 0 || l >= now.tower.size()) return NONE;
        List<int[]> list = fitting(l);
        if (list.isEmpty()) return -2;
        int best = NONE;
        int fewest = 0;
        for (int p = 0; p < 3; p++) {
            if (!there(now.tower, 3 * l + p)) continue;
            int n = 0;
            for (int[] v : list) n += bears(v) >> p & 1;
            int most = Math.max(n, list.size() - n);
            if (best == NONE || most < fewest) {
                best = 3 * l + p;
                fewest = most;
            }
        }
        tell(fewest);
        return best;
    }

    // ---- kept

    boolean keep(int i) {
        if (i < 0 || i > 2) return false;
        kept[i] = now.copy();
        return true;
    }

    boolean again(int i) {
        if (i < 0 || i > 2 || kept[i] == null) return false;
        now = kept[i].copy();
        now.mover %= hands.length;
        felt.clear();
        known.clear();
        undos.clear();
        return true;
    }

    int count(int what) {
        int blocks = 0;
        for (int[] l : now.tower) blocks += blocks(l);
        switch (what) {
            case 0: return now.tower.size();
            case 1: return blocks;
            case 2: return 3 * now.tower.size() - blocks;
            case 3: return hands.length;
            case 4: return now.mover;
            case 5: return felled() ? 1 : 0;
            case 6: return now.feller;
            case 7: return tilt[0];
            case 8: return tilt[1];
            case 9: return undos.size();
            case 10: return felt.size();
            case 11: return row.size();
            case 12: return text.length();
            default: return -100;
        }
    }

    long row(int i) {
        if (i < 0 || i >= row.size()) throw new NoSuchElementException();
        return row.get(i);
    }
}
