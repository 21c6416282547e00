import java.util.ArrayDeque;
import java.util.ArrayList;
import java.util.Arrays;
import java.util.HashMap;
import java.util.HashSet;
import java.util.List;
import java.util.Map;
import java.util.Set;

/** The document read a second time, by other means than the program's, to hold its answers against. */
final class Model {
    static final int NONE = -1;
    static final int APART = 1000;

    static final class Line {
        int a, b, price;
        Line(int a, int b, int price) { this.a = Math.min(a, b); this.b = Math.max(a, b); this.price = price; }
    }

    static final class State {
        List<String> names = new ArrayList<>();
        List<Line> lines = new ArrayList<>();
        State copy() {
            State s = new State();
            s.names.addAll(names);
            for (Line l : lines) s.lines.add(new Line(l.a, l.b, l.price));
            return s;
        }
    }

    List<Integer> tape = new ArrayList<>();
    State st = new State();
    ArrayDeque<State> past = new ArrayDeque<>();
    List<Integer> votes = new ArrayList<>();
    List<int[]> seen = new ArrayList<>();
    List<Integer> picture = new ArrayList<>();
    int[] refused = new int[6];
    int faultKind = 0, faultPlace = NONE;
    long x = 1;

    int n() { return st.names.size(); }
    boolean node(int v) { return v >= 0 && v < n(); }
    boolean isLine(int l) { return l >= 0 && l < st.lines.size(); }

    int no(int k) { refused[k]++; return NONE; }
    boolean nay(int k) { refused[k]++; return false; }

    int feed(int a, int b, int c, int d, int e) {
        if (tape.size() + 20 > 800) return no(0);
        for (int v : new int[] {a, b, c, d, e})
            for (int s = 24; s >= 0; s -= 8) tape.add((v >>> s) & 255);
        return tape.size();
    }

    boolean end(int k) {
        if (k < 0 || k > tape.size()) return nay(0);
        tape = new ArrayList<>(tape.subList(0, k));
        return true;
    }

    // ---- text: cut into tokens first, then judged token by token

    record Token(String text, int place) { }

    static List<Token> tokens(List<Integer> tape) {
        List<Token> row = new ArrayList<>();
        int i = 0;
        while (i < tape.size()) {
            int c = tape.get(i);
            if (c == 10 || c == 32) { i++; continue; }
            int j = i;
            StringBuilder w = new StringBuilder();
            while (j < tape.size() && tape.get(j) >= 97 && tape.get(j) <= 122) w.append((char) (int) tape.get(j++));
            if (j == i) { w.append((char) c); j++; }
            row.add(new Token(w.toString(), i));
            i = j;
        }
        row.add(new Token("", tape.size()));
        return row;
    }

    static boolean isWord(String s) { return s.matches("[a-z]+"); }

    static final class Fault extends RuntimeException {
        final int kind, place;
        Fault(int kind, int place) { this.kind = kind; this.place = place; }
    }

    static String nameOf(Token t) {
        if (!isWord(t.text()) || t.text().equals("nodes") || t.text().equals("way")) throw new Fault(1, t.place());
        if (t.text().length() > 4) throw new Fault(1, t.place() + 4);
        return t.text();
    }

    int net() {
        List<Token> row = tokens(tape);
        tape = new ArrayList<>();
        State s = new State();
        int statements = 0;
        try {
            int i = 0;
            do {
                String word = statements == 0 ? "nodes" : "way";
                if (!row.get(i).text().equals(word)) throw new Fault(1, row.get(i).place());
                i++;
                int count = 0;
                int ahead = NONE;
                while (true) {
                    Token t = row.get(i++);
                    count++;
                    if (count == 25) throw new Fault(t.text().isEmpty() ? 1 : 5, t.place());
                    String name = nameOf(t);
                    int at = s.names.indexOf(name);
                    if (statements == 0) {
                        if (at >= 0) throw new Fault(3, t.place());
                        s.names.add(name);
                    } else {
                        if (at < 0) throw new Fault(3, t.place());
                        if (ahead != NONE) {
                            if (at == ahead || lineOf(s, at, ahead) != NONE) throw new Fault(4, t.place());
                            if (s.lines.size() == 60) throw new Fault(5, t.place());
                            s.lines.add(new Line(at, ahead, 1));
                        }
                        ahead = at;
                    }
                    Token sign = row.get(i++);
                    if (sign.text().equals(",")) continue;
                    if (sign.text().equals(";") && (statements == 0 || count > 1)) break;
                    throw new Fault(1, sign.place());
                }
                statements++;
                if (row.get(i).text().isEmpty()) break;
            } while (true);
        } catch (Fault f) {
            faultKind = f.kind;
            faultPlace = f.place;
            return no(1);
        }
        faultKind = 0;
        faultPlace = NONE;
        st = s;
        past.clear();
        votes.clear();
        seen.clear();
        return statements;
    }

    int fault(int what) { return what == 0 ? faultKind : what == 1 ? faultPlace : NONE; }

    static int lineOf(State s, int a, int b) {
        for (int i = 0; i < s.lines.size(); i++) {
            Line l = s.lines.get(i);
            if (l.a == Math.min(a, b) && l.b == Math.max(a, b)) return i;
        }
        return NONE;
    }

    // ---- distances by Floyd and Warshall

    int[][] dist() {
        int n = n();
        int[][] d = new int[n][n];
        for (int[] r : d) Arrays.fill(r, APART);
        for (int i = 0; i < n; i++) d[i][i] = 0;
        for (Line l : st.lines) d[l.a][l.b] = d[l.b][l.a] = 1;
        for (int k = 0; k < n; k++)
            for (int i = 0; i < n; i++)
                for (int j = 0; j < n; j++) d[i][j] = Math.min(d[i][j], d[i][k] + d[k][j]);
        for (int[] r : d) for (int j = 0; j < n; j++) if (r[j] > APART) r[j] = APART;
        return d;
    }

    boolean connected() {
        for (int[] r : dist()) for (int v : r) if (v == APART) return false;
        return true;
    }

    boolean isAlike(int[][] d, int e, int f) {
        Line p = st.lines.get(e), q = st.lines.get(f);
        if (d[p.a][q.a] == APART) return false;
        return d[p.a][q.a] + d[p.b][q.b] != d[p.a][q.b] + d[p.b][q.a];
    }

    int[] classes() {
        int m = st.lines.size();
        int[][] d = dist();
        boolean[][] t = new boolean[m][m];
        for (int i = 0; i < m; i++) for (int j = 0; j < m; j++) t[i][j] = isAlike(d, i, j);
        for (int k = 0; k < m; k++)
            for (int i = 0; i < m; i++)
                if (t[i][k]) for (int j = 0; j < m; j++) t[i][j] |= t[k][j];
        int[] c = new int[m];
        int count = 0;
        for (int i = 0; i < m; i++) {
            int first = i;
            for (int j = i - 1; j >= 0; j--) if (t[i][j]) first = j;
            c[i] = first == i ? count++ : c[first];
        }
        return c;
    }

    int classCount() { int most = -1; for (int c : classes()) most = Math.max(most, c); return most + 1; }

    int[] reason() {
        int[][] d = dist();
        for (int a = 0; a < n(); a++)
            for (int b = a + 1; b < n(); b++) if (d[a][b] == APART) return new int[] {1, a, b};
        for (int e = 0; e < st.lines.size(); e++)
            for (int v = 0; v < n(); v++)
                if (d[v][st.lines.get(e).a] == d[v][st.lines.get(e).b]) return new int[] {2, e, v};
        int[] c = classes();
        for (int e = 0; e < c.length; e++)
            for (int f = e + 1; f < c.length; f++)
                if (c[e] == c[f] && !isAlike(d, e, f)) return new int[] {3, e, f};
        return new int[] {0, NONE, NONE};
    }

    boolean sits() { return n() > 0 && reason()[0] == 0; }

    /** Coordinates, and a proof by the cube's own distances that the net sits in it. */
    int[] coordinates() {
        int[][] d = dist();
        int[] c = classes();
        int count = classCount();
        int[] s = new int[n()];
        for (int k = 0; k < count; k++) {
            int e = 0;
            while (c[e] != k) e++;
            for (int v = 0; v < n(); v++)
                if (d[v][st.lines.get(e).a] > d[v][st.lines.get(e).b]) s[v] |= 1 << k;
        }
        return s;
    }

    boolean cubeTells() {
        if (n() == 0 || !connected()) return false;
        int[][] d = dist();
        int[] s = coordinates();
        for (int a = 0; a < n(); a++)
            for (int b = 0; b < n(); b++) if (d[a][b] != Integer.bitCount(s[a] ^ s[b])) return false;
        return true;
    }

    boolean fair() {
        int[] c = classes();
        for (int i = 0; i < c.length; i++)
            for (int j = 0; j < c.length; j++)
                if (c[i] == c[j] && st.lines.get(i).price != st.lines.get(j).price) return false;
        return true;
    }

    int has(int what) {
        return switch (what) {
            case 0 -> n();
            case 1 -> st.lines.size();
            case 2 -> classCount();
            case 3 -> votes.size();
            case 4 -> seen.size();
            case 5 -> past.size();
            case 6 -> reason()[0];
            case 7 -> fair() ? 1 : 0;
            default -> NONE;
        };
    }

    int letter(int v, int k) {
        if (!node(v) || k < 0 || k > 3) return NONE;
        String s = st.names.get(v);
        return k < s.length() ? s.charAt(k) - 96 : 0;
    }

    int named() {
        StringBuilder w = new StringBuilder();
        for (int b : tape) w.append((char) b);
        tape = new ArrayList<>();
        return w.length() == 0 ? NONE : st.names.indexOf(w.toString());
    }

    int line(int l, int what) {
        if (!isLine(l)) return NONE;
        return switch (what) {
            case 0 -> st.lines.get(l).a;
            case 1 -> st.lines.get(l).b;
            case 2 -> classes()[l];
            case 3 -> st.lines.get(l).price;
            default -> NONE;
        };
    }

    int degree(int v) {
        if (!node(v)) return NONE;
        int c = 0;
        for (Line l : st.lines) if (l.a == v || l.b == v) c++;
        return c;
    }

    int far(int a, int b) {
        if (!node(a) || !node(b)) return NONE;
        int d = dist()[a][b];
        return d == APART ? NONE : d;
    }

    int ways(int a, int b) {
        if (!node(a) || !node(b)) return NONE;
        int[][] d = dist();
        if (d[a][b] == APART) return 0;
        return (int) Math.min(1000000000L, waysTo(d, a, b, new HashMap<>()));
    }

    private long waysTo(int[][] d, int a, int b, Map<Integer, Long> known) {
        if (a == b) return 1;
        Long k = known.get(a);
        if (k != null) return k;
        long sum = 0;
        for (int v = 0; v < n(); v++) if (d[a][v] == 1 && d[v][b] == d[a][b] - 1) sum += waysTo(d, v, b, known);
        known.put(a, sum);
        return sum;
    }

    int between(int a, int b) {
        if (!node(a) || !node(b)) return NONE;
        int[][] d = dist();
        return inside(d, a, b);
    }

    private int inside(int[][] d, int a, int b) {
        if (d[a][b] == APART) return 0;
        int r = 0;
        for (int v = 0; v < d.length; v++) if (d[a][v] + d[v][b] == d[a][b]) r |= 1 << v;
        return r;
    }

    int reach(int v) {
        if (!node(v)) return NONE;
        int most = 0;
        for (int d : dist()[v]) if (d != APART) most = Math.max(most, d);
        return most;
    }

    /** The cheapest ways from one node, grown as whole rows of nodes. */
    List<List<Integer>> cheapest(int from, int[] cost) {
        List<List<Integer>> best = new ArrayList<>();
        for (int i = 0; i < n(); i++) { best.add(null); cost[i] = Integer.MAX_VALUE; }
        best.set(from, new ArrayList<>(List.of(from)));
        cost[from] = 0;
        boolean go = true;
        while (go) {
            go = false;
            for (Line l : st.lines)
                for (int turn = 0; turn < 2; turn++) {
                    int u = turn == 0 ? l.a : l.b, v = turn == 0 ? l.b : l.a;
                    if (best.get(u) == null) continue;
                    List<Integer> way = new ArrayList<>(best.get(u));
                    way.add(v);
                    int c = cost[u] + l.price;
                    if (c < cost[v] || (c == cost[v] && less(way, best.get(v)))) {
                        cost[v] = c;
                        best.set(v, way);
                        go = true;
                    }
                }
        }
        return best;
    }

    static boolean less(List<Integer> p, List<Integer> q) {
        for (int i = 0; i < p.size() && i < q.size(); i++) if (!p.get(i).equals(q.get(i))) return p.get(i) < q.get(i);
        return p.size() < q.size();
    }

    int price(int a, int b, int what) {
        if (!node(a) || !node(b) || what < 0 || what > 1) return NONE;
        int[] cost = new int[n()];
        List<List<Integer>> best = cheapest(a, cost);
        if (best.get(b) == null) return NONE;
        if (what == 0) return cost[b];
        for (int bar = 0; bar <= 9; bar++) {
            Set<Integer> got = new HashSet<>(Set.of(a));
            boolean go = true;
            while (go) {
                go = false;
                for (Line l : st.lines)
                    if (l.price <= bar && got.contains(l.a) != got.contains(l.b)) { got.add(l.a); got.add(l.b); go = true; }
            }
            if (got.contains(b)) return bar;
        }
        throw new IllegalStateException();
    }

    int road(int a, int b, int k) {
        if (!node(a) || !node(b)) return NONE;
        List<Integer> way = cheapest(a, new int[n()]).get(b);
        if (way == null) return NONE;
        if (k == NONE) return way.size();
        return k >= 0 && k < way.size() ? way.get(k) : NONE;
    }

    int spread() {
        int sum = 0;
        for (int[] r : dist()) for (int v : r) if (v != APART) sum += v;
        return sum / 2;
    }

    int alike(int e, int f) { return !isLine(e) || !isLine(f) ? NONE : isAlike(dist(), e, f) ? 1 : 0; }

    int ones(int k) {
        int r = 0;
        int[] s = coordinates();
        for (int v = 0; v < n(); v++) if ((s[v] >> k & 1) == 1) r |= 1 << v;
        return r;
    }

    int cost(int k) { int o = Integer.bitCount(ones(k)); return o * (n() - o); }

    int sort(int kind, int what) {
        int[] c = classes();
        int size = 0, least = NONE;
        for (int i = c.length - 1; i >= 0; i--) if (c[i] == kind) { size++; least = i; }
        if (size == 0) return NONE;
        return switch (what) {
            case 0 -> size;
            case 1 -> least;
            case 2 -> sits() ? cost(kind) : NONE;
            case 3 -> sits() ? ones(kind) : NONE;
            default -> NONE;
        };
    }

    int shows(int what) { return what < 0 || what > 1 ? NONE : reason()[1 + what]; }

    int sides(int v) { return sits() && node(v) ? coordinates()[v] : NONE; }

    int at(int s) {
        if (!sits()) return NONE;
        int[] c = coordinates();
        for (int v = 0; v < c.length; v++) if (c[v] == s) return v;
        return NONE;
    }

    int cross(int p, int q) {
        if (!sits() || p == q || p < 0 || q < 0 || p >= classCount() || q >= classCount()) return NONE;
        return pairs(coordinates(), p, q);
    }

    static int pairs(int[] c, int p, int q) {
        Set<Integer> got = new HashSet<>();
        for (int s : c) got.add((s >> p & 1) * 2 + (s >> q & 1));
        return got.size();
    }

    Set<Integer> half(int h) {
        Set<Integer> r = new HashSet<>();
        int[] c = coordinates();
        for (int v = 0; v < n(); v++) if ((c[v] >> (h / 2) & 1) == h % 2) r.add(v);
        return r;
    }

    static boolean fitting(Set<Integer> a, Set<Integer> b, int n) {
        Set<Integer> all = new HashSet<>(a), both = new HashSet<>(a);
        all.addAll(b);
        both.retainAll(b);
        return all.size() == n && !both.isEmpty();
    }

    int fit(int p, int q) {
        if (!sits() || p == q || p < 0 || q < 0 || p >= 2 * classCount() || q >= 2 * classCount()) return NONE;
        return fitting(half(p), half(q), n()) ? 1 : 0;
    }

    int cubes(int k) {
        if (k < 0 || !sits()) return NONE;
        int dirs = classCount();
        if (k > dirs || k > 5) return 0;
        int[] c = coordinates();
        return cubesBy(c, dirs, 0, k, 0);
    }

    private static int cubesBy(int[] c, int dirs, int from, int left, int chosen) {
        if (left == 0) {
            Map<Integer, Integer> got = new HashMap<>();
            for (int s : c) got.merge(s & ~chosen, 1, Integer::sum);
            int count = 0;
            for (int g : got.values()) if (g == 1 << Integer.bitCount(chosen)) count++;
            return count;
        }
        int sum = 0;
        for (int d = from; d < dirs; d++) sum += cubesBy(c, dirs, d + 1, left - 1, chosen | 1 << d);
        return sum;
    }

    int most(int what) {
        if (what < 0 || what > 1 || !sits()) return NONE;
        int dirs = classCount();
        int[] c = coordinates();
        int[] ok = new int[dirs];
        for (int p = 0; p < dirs; p++) for (int q = 0; q < dirs; q++) if (p != q && pairs(c, p, q) == 4) ok[p] |= 1 << q;
        // cliques by size, each list in rising order of bits
        List<Integer> level = new ArrayList<>(List.of(0));
        while (true) {
            Set<Integer> next = new HashSet<>();
            for (int s : level)
                for (int d = 0; d < dirs; d++)
                    if (s >> d == 0 && (ok[d] & s) == s) next.add(s | 1 << d);
            if (next.isEmpty()) break;
            level = new ArrayList<>(next);
        }
        int least = Integer.MAX_VALUE;
        for (int s : level) least = Math.min(least, s);
        return what == 0 ? Integer.bitCount(least) : least;
    }

    int opposite(int v) {
        if (!sits() || !node(v)) return NONE;
        return at((1 << classCount()) - 1 - coordinates()[v]);
    }

    int even(int what) {
        if (what < 0 || what > 1 || !sits() || classCount() == 0) return NONE;
        int best = 0;
        for (int k = classCount() - 1; k >= 0; k--) if (cost(k) >= cost(best)) best = k;
        return what == 0 ? best : cost(best);
    }

    int few() {
        if (!sits() || classCount() > 8) return NONE;
        int h = 2 * classCount();
        List<Set<Integer>> halves = new ArrayList<>();
        for (int i = 0; i < h; i++) halves.add(half(i));
        int[] ok = new int[h];
        for (int i = 0; i < h; i++)
            for (int j = 0; j < h; j++) if (i != j && fitting(halves.get(i), halves.get(j), n())) ok[i] |= 1 << j;
        int[] best = new int[1 << h];
        for (int m = 1; m < 1 << h; m++) {
            int low = Integer.numberOfTrailingZeros(m);
            best[m] = best[m & m - 1];
            for (int j = low + 1; j < h; j++)
                if ((m >> j & 1) == 1 && (ok[low] >> j & 1) == 1) best[m] = Math.max(best[m], 1 + best[m & m - 1 & ~(1 << j)]);
        }
        return classCount() - best[(1 << h) - 1];
    }

    int median(int a, int b, int c) {
        if (!node(a) || !node(b) || !node(c)) return NONE;
        return between(a, b) & between(b, c) & between(a, c);
    }

    int medians(int what) {
        if (what < 0 || what > 3) return NONE;
        int[][] d = dist();
        for (int a = 0; a < n(); a++)
            for (int b = a + 1; b < n(); b++)
                for (int c = b + 1; c < n(); c++)
                    if (Integer.bitCount(inside(d, a, b) & inside(d, b, c) & inside(d, a, c)) != 1)
                        return what == 0 ? 0 : new int[] {a, b, c}[what - 1];
        return what == 0 ? 1 : NONE;
    }

    int vote() {
        List<Integer> t = tape;
        tape = new ArrayList<>();
        if (t.isEmpty() || t.size() > 15) return no(1);
        for (int v : t) if (!node(v)) return no(1);
        votes = t;
        return t.size();
    }

    int winner(int what) {
        if (what < 0 || what > 2 || votes.isEmpty() || !connected()) return NONE;
        for (int v : votes) if (!node(v)) return NONE;
        if (what == 2) {
            if (!sits()) return NONE;
            int s = 0;
            for (int k = 0; k < classCount(); k++) {
                int up = 0, down = 0;
                for (int v : votes) if ((coordinates()[v] >> k & 1) == 1) up++; else down++;
                if (up > down) s |= 1 << k;
            }
            return at(s);
        }
        int[][] d = dist();
        int best = NONE, least = Integer.MAX_VALUE;
        for (int v = 0; v < n(); v++) {
            int sum = 0;
            for (int w : votes) sum += d[v][w];
            if (sum < least) { least = sum; best = v; }
        }
        return what == 0 ? best : least;
    }

    boolean badSet(int s) { return n() == 0 || !connected() || s < 0 || s >= 1 << n(); }

    static boolean closed(int[][] d, int s) {
        for (int a = 0; a < d.length; a++)
            for (int b = 0; b < d.length; b++)
                if ((s >> a & 1) == 1 && (s >> b & 1) == 1)
                    for (int v = 0; v < d.length; v++)
                        if (d[a][v] + d[v][b] == d[a][b] && (s >> v & 1) == 0) return false;
        return true;
    }

    int set(int s, int what) {
        if (badSet(s) || what < 0 || what > 1) return NONE;
        int[][] d = dist();
        if (what == 1) return closed(d, s) ? 1 : 0;
        State keep = st;
        State part = keep.copy();
        part.lines.removeIf(l -> (s >> l.a & 1) == 0 || (s >> l.b & 1) == 0);
        st = part;
        int[][] in = dist();
        st = keep;
        for (int a = 0; a < n(); a++)
            for (int b = 0; b < n(); b++)
                if ((s >> a & 1) == 1 && (s >> b & 1) == 1 && in[a][b] != d[a][b]) return 0;
        return 1;
    }

    int hull(int s) {
        if (badSet(s)) return NONE;
        int[][] d = dist();
        if (n() <= 11) {
            int least = (1 << n()) - 1;
            for (int t = 0; t < 1 << n(); t++) if ((t & s) == s && closed(d, t)) least &= t;
            return least;
        }
        boolean go = true;
        while (go) {
            go = false;
            for (int a = 0; a < n(); a++)
                for (int b = 0; b < n(); b++)
                    if ((s >> a & 1) == 1 && (s >> b & 1) == 1) {
                        int t = s | inside(d, a, b);
                        go |= t != s;
                        s = t;
                    }
        }
        return s;
    }

    int gate(int v, int s) {
        if (!node(v) || badSet(s)) return NONE;
        int[][] d = dist();
        int found = NONE;
        for (int g = 0; g < n(); g++) {
            if ((s >> g & 1) == 0) continue;
            boolean all = true;
            for (int w = 0; w < n(); w++) if ((s >> w & 1) == 1) all &= (inside(d, v, w) >> g & 1) == 1;
            if (all && found != NONE) throw new IllegalStateException("two gates");
            if (all) found = g;
        }
        return found;
    }

    int see() {
        List<Integer> t = tape;
        tape = new ArrayList<>();
        if (t.isEmpty() || t.size() > 24 || t.size() % 2 == 1) return no(1);
        List<int[]> rows = new ArrayList<>();
        for (int i = 0; i < t.size(); i += 2) {
            if (!node(t.get(i)) || t.get(i + 1) > 23) return no(1);
            rows.add(new int[] {t.get(i), t.get(i + 1)});
        }
        seen = rows;
        return rows.size();
    }

    int fits() {
        if (seen.isEmpty()) return NONE;
        int r = 0;
        for (int[] row : seen) if (!node(row[0])) return NONE;
        int[][] d = dist();
        for (int v = 0; v < n(); v++) {
            boolean ok = true;
            for (int[] row : seen) ok &= d[v][row[0]] == row[1];
            if (ok) r |= 1 << v;
        }
        return r;
    }

    int tells(int what) {
        int f = fits();
        if (what < 0 || what > 1 || f == NONE || f == 0) return NONE;
        int[][] d = dist();
        int best = NONE, least = 99;
        for (int v = 0; v < n(); v++) {
            Map<Integer, Integer> got = new HashMap<>();
            for (int w = 0; w < n(); w++) if ((f >> w & 1) == 1) got.merge(d[v][w], 1, Integer::sum);
            int most = 0;
            for (int g : got.values()) most = Math.max(most, g);
            if (most < least) { least = most; best = v; }
        }
        return what == 0 ? best : least;
    }

    // ---- acts

    void keep() {
        past.addLast(st.copy());
        if (past.size() > 20) past.removeFirst();
    }

    boolean joinable(int a, int b) {
        return node(a) && node(b) && a != b && lineOf(st, a, b) == NONE && st.lines.size() < 60;
    }

    boolean growable(int v) { return node(v) && n() < 24 && st.lines.size() < 60; }

    int join(int a, int b) {
        if (!joinable(a, b)) return no(2);
        keep();
        st.lines.add(new Line(a, b, 1));
        return st.lines.size() - 1;
    }

    boolean cut(int l) {
        if (!isLine(l)) return nay(2);
        keep();
        st.lines.remove(l);
        return true;
    }

    boolean toll(int l, int p) {
        if (!isLine(l) || p < 1 || p > 9 || st.lines.get(l).price == p) return nay(2);
        keep();
        st.lines.get(l).price = p;
        return true;
    }

    void growNow(int v) {
        st.names.add("");
        st.lines.add(new Line(v, n() - 1, 1));
    }

    int grow(int v) {
        if (!growable(v)) return no(2);
        keep();
        growNow(v);
        return n() - 1;
    }

    boolean drop(int v) {
        if (!node(v) || n() == 1) return nay(2);
        keep();
        st.names.remove(v);
        st.lines.removeIf(l -> l.a == v || l.b == v);
        for (Line l : st.lines) { if (l.a > v) l.a--; if (l.b > v) l.b--; }
        return true;
    }

    void pressNow(int kind) {
        int[] c = classes();
        State whole = st, thin = whole.copy();
        List<Line> mine = new ArrayList<>();
        for (int i = 0; i < c.length; i++) if (c[i] == kind) mine.add(whole.lines.get(i));
        thin.lines = mine;
        st = thin;
        int[][] d = dist();
        st = whole;
        State r = new State();
        int[] to = new int[n()];
        for (int v = 0; v < n(); v++) {
            int least = v;
            for (int w = v; w >= 0; w--) if (d[v][w] != APART) least = w;
            if (least == v) { to[v] = r.names.size(); r.names.add(whole.names.get(v)); } else to[v] = to[least];
        }
        for (Line l : whole.lines)
            if (to[l.a] != to[l.b] && lineOf(r, to[l.a], to[l.b]) == NONE) r.lines.add(new Line(to[l.a], to[l.b], l.price));
        st = r;
    }

    int press(int kind) {
        if (kind < 0 || kind >= classCount()) return no(3);
        keep();
        pressNow(kind);
        return n();
    }

    int open(int a, int b) {
        int all = (1 << n()) - 1, both = a & b, bAlone = b & ~a, aAlone = a & ~b;
        if ((a | b) != all || both == 0) return no(3);
        for (Line l : st.lines) {
            boolean p = (aAlone >> l.a & 1) == 1 && (bAlone >> l.b & 1) == 1;
            boolean q = (bAlone >> l.a & 1) == 1 && (aAlone >> l.b & 1) == 1;
            if (p || q) return no(3);
        }
        State r = st.copy();
        Map<Integer, Integer> second = new HashMap<>();
        for (int v = 0; v < n(); v++) if ((both >> v & 1) == 1) { second.put(v, r.names.size()); r.names.add(""); }
        r.lines.clear();
        List<Line> doubles = new ArrayList<>();
        for (Line l : st.lines) {
            boolean p = second.containsKey(l.a), q = second.containsKey(l.b);
            if (p && q) doubles.add(new Line(second.get(l.a), second.get(l.b), l.price));
            if (p && (bAlone >> l.b & 1) == 1) r.lines.add(new Line(second.get(l.a), l.b, l.price));
            else if (q && (bAlone >> l.a & 1) == 1) r.lines.add(new Line(l.a, second.get(l.b), l.price));
            else r.lines.add(new Line(l.a, l.b, l.price));
        }
        r.lines.addAll(doubles);
        for (int v = 0; v < n(); v++) if (second.containsKey(v)) r.lines.add(new Line(v, second.get(v), 1));
        if (r.names.size() > 24 || r.lines.size() > 60) return no(3);
        keep();
        st = r;
        return n();
    }

    int draw(int m) {
        x = (1103515245L * x + 12345L) % (1L << 31);
        return (int) ((x / 64) % m);
    }

    int chance(int times) {
        if (times < 1 || times > 40 || n() == 0) return no(3);
        keep();
        for (int i = 0; i < times; i++) {
            switch (draw(4)) {
                case 0, 1 -> { int v = draw(n()); if (growable(v)) growNow(v); }
                case 2 -> {
                    int a = draw(n()), b = draw(n());
                    int l = lineOf(st, a, b);
                    if (l != NONE) st.lines.remove(l);
                    else if (joinable(a, b)) st.lines.add(new Line(a, b, 1));
                }
                default -> {
                    int count = classCount();
                    int k = draw(count == 0 ? 1 : count);
                    if (k < count) pressNow(k);
                }
            }
        }
        return n();
    }

    boolean undo() {
        if (past.isEmpty()) return nay(4);
        st = past.removeLast();
        return true;
    }

    boolean seed(int s) {
        if (s < 0) return nay(5);
        x = s;
        return true;
    }

    static int check(List<Integer> bytes) {
        int c = 167;
        for (int b : bytes) c = (3 * c + b) % 251;
        return c;
    }

    int image() {
        picture = new ArrayList<>(List.of(n(), st.lines.size()));
        for (Line l : st.lines) { picture.add(l.a); picture.add(l.b); }
        picture.add(check(picture));
        return picture.size();
    }

    int octet(int k) { return k >= 0 && k < picture.size() ? picture.get(k) : NONE; }

    boolean on() {
        List<Integer> t = tape;
        tape = new ArrayList<>();
        if (t.size() < 3 || t.get(0) < 1 || t.get(0) > 24 || t.get(1) > 60 || t.size() != 3 + 2 * t.get(1)) return nay(5);
        if (check(t.subList(0, t.size() - 1)) != t.get(t.size() - 1)) return nay(5);
        State s = new State();
        for (int i = 0; i < t.get(0); i++) s.names.add("");
        for (int i = 2; i + 2 < t.size(); i += 2) {
            int a = t.get(i), b = t.get(i + 1);
            if (a >= b || b >= s.names.size() || lineOf(s, a, b) != NONE) return nay(5);
            s.lines.add(new Line(a, b, 1));
        }
        st = s;
        past.clear();
        return true;
    }

    int status(int what) { return what >= 0 && what < 6 ? refused[what] : NONE; }
}
