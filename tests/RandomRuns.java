import java.util.ArrayList;
import java.util.List;
import java.util.Random;

/** Runs of calls by a fixed seed, each answer held against the model's. */
public final class RandomRuns {
    private static int wrong = 0;
    private static long calls = 0;
    private final Random r;
    private final int run;
    private final CubeNets x = new CubeNets();
    private final Model m = new Model();
    private final StringBuilder log = new StringBuilder();
    private int left = 512;

    private RandomRuns(int run) { this.run = run; this.r = new Random(run); }

    private void same(String call, int got, int due) {
        calls++;
        left--;
        log.append(call).append(" -> ").append(got).append('\n');
        if (got != due) {
            wrong++;
            if (wrong <= 5) System.out.println("run " + run + ": " + call + " answered " + got + ", due is " + due + "\n" + log);
        }
    }

    private static int b(boolean v) { return v ? 1 : 0; }

    private void tape(byte[] bytes) {
        for (int i = 0; i < bytes.length; i += 20) {
            int[] w = new int[5];
            for (int k = 0; k < 20; k++) w[k / 4] = w[k / 4] << 8 | (i + k < bytes.length ? bytes[i + k] & 255 : pad(k));
            same("feed(" + w[0] + "," + w[1] + "," + w[2] + "," + w[3] + "," + w[4] + ")",
                x.feed(w[0], w[1], w[2], w[3], w[4]), m.feed(w[0], w[1], w[2], w[3], w[4]));
        }
        if (bytes.length % 20 != 0) same("end(" + bytes.length + ")", b(x.end(bytes.length)), b(m.end(bytes.length)));
    }

    /** What end() takes off the tape again: bytes that would count if they were read. */
    private static int pad(int k) { return ";,a \n;b\0".charAt(k % 8); }

    private static String name(int i) { return i < 20 ? "" + (char) (97 + i) : "n" + (char) (97 + i % 26) + "xy".substring(i % 2); }

    private String blank() { return r.nextInt(12) == 0 ? " \n ".substring(r.nextInt(3)) : ""; }

    private String text(int n, List<int[]> lines) {
        StringBuilder s = new StringBuilder(blank() + "nodes ");
        for (int i = 0; i < n; i++) s.append(i == 0 ? "" : ",").append(blank()).append(name(i)).append(blank());
        s.append(";").append(blank());
        for (int i = 0; i < lines.size(); ) {
            int[] l = lines.get(i++);
            s.append("way ").append(blank()).append(name(l[0])).append(blank()).append(",").append(name(l[1]));
            int last = l[1];
            while (i < lines.size() && lines.get(i)[0] == last) { last = lines.get(i++)[1]; s.append(",").append(name(last)); }
            s.append(blank()).append(";").append(blank());
        }
        return s.toString();
    }

    private static void line(List<int[]> lines, int a, int b) {
        if (a == b || lines.size() >= 60) return;
        for (int[] l : lines) if (l[0] == a && l[1] == b || l[0] == b && l[1] == a) return;
        lines.add(new int[] {a, b});
    }

    private String someNet() {
        List<int[]> l = new ArrayList<>();
        int n;
        switch (r.nextInt(9)) {
            case 0 -> { n = 1 + r.nextInt(24); for (int i = 1; i < n; i++) line(l, r.nextInt(i), i); }
            case 1 -> {
                int w = 1 + r.nextInt(5), h = 1 + r.nextInt(Math.min(6, 24 / w));
                n = w * h;
                for (int i = 0; i < n; i++) { if (i % w + 1 < w) line(l, i, i + 1); if (i + w < n) line(l, i, i + w); }
            }
            case 2 -> { n = 3 + r.nextInt(22); for (int i = 0; i < n; i++) line(l, i, (i + 1) % n); }
            case 3 -> { n = 1 << r.nextInt(5); for (int i = 0; i < n; i++) for (int d = 1; d < n; d *= 2) if ((i & d) == 0) line(l, i, i | d); }
            case 4 -> { n = 1 + r.nextInt(24); int c = r.nextInt(80); for (int i = 0; i < c; i++) line(l, r.nextInt(n), r.nextInt(n)); }
            case 5 -> { n = 2 + r.nextInt(12); int c = r.nextInt(40); for (int i = 0; i < c; i++) { int a = r.nextInt(n), q = r.nextInt(n); if ((a + q) % 2 == 1) line(l, a, q); } }
            case 6 -> { n = 2 + r.nextInt(8); for (int i = 1; i < n; i++) line(l, 0, i); }
            case 7 -> {
                // a prism over a ring, with a tail
                int k = 2 * (2 + r.nextInt(4));
                n = 2 * k + r.nextInt(4);
                if (n > 24) n = 2 * k;
                for (int i = 0; i < k; i++) { line(l, i, (i + 1) % k); line(l, k + i, k + (i + 1) % k); line(l, i, k + i); }
                for (int i = 2 * k; i < n; i++) line(l, r.nextInt(i), i);
            }
            default -> { n = 1 + r.nextInt(3); for (int i = 1; i < n; i++) line(l, i - 1, i); }
        }
        return text(n, l);
    }

    private void newNet() {
        String s = someNet();
        if (r.nextInt(4) == 0) s = spoil(s);
        if (s.length() > 800) return;
        tape(s.getBytes(java.nio.charset.StandardCharsets.ISO_8859_1));
        same("net()", x.net(), m.net());
        for (int i = -1; i < 3; i++) same("fault(" + i + ")", x.fault(i), m.fault(i));
    }

    private String spoil(String s) {
        for (int i = 1 + r.nextInt(2); i > 0 && s.length() > 1; i--) {
            int p = r.nextInt(s.length());
            String put = switch (r.nextInt(12)) {
                case 0 -> "";
                case 1 -> ",";
                case 2 -> ";";
                case 3 -> " ";
                case 4 -> "a";
                case 5 -> "nodes";
                case 6 -> "way";
                case 7 -> "" + (char) r.nextInt(256);
                case 8 -> ",a";
                case 9 -> ",b,a";
                case 10 -> "abcde";
                default -> "A";
            };
            s = s.substring(0, p) + put + s.substring(r.nextInt(3) == 0 ? p : Math.min(s.length(), p + 1));
            if (r.nextInt(5) == 0) s = s.substring(0, r.nextInt(s.length() + 1));
        }
        return s;
    }

    private int v() { int n = m.n(); return n == 0 || r.nextInt(15) == 0 ? r.nextInt(28) - 2 : r.nextInt(n); }
    private int e() { int n = m.st.lines.size(); return n == 0 || r.nextInt(15) == 0 ? r.nextInt(64) - 2 : r.nextInt(n); }
    private int k() { int n = m.classCount(); return n == 0 || r.nextInt(12) == 0 ? r.nextInt(27) - 2 : r.nextInt(n); }
    private int w(int top) { return r.nextInt(top + 3) - 1; }
    private int bits() { return r.nextInt(20) == 0 ? r.nextInt() : r.nextInt(1 << Math.max(1, m.n())) & (r.nextBoolean() ? -1 : r.nextInt()); }

    private void ask() {
        int a = v(), c = v(), d = v(), l = e(), q = e(), k = k(), j = k(), s = bits();
        int t;
        switch (r.nextInt(34)) {
            case 0 -> { t = w(7); same("has(" + t + ")", x.has(t), m.has(t)); }
            case 1 -> { t = w(3); same("letter(" + a + "," + t + ")", x.letter(a, t), m.letter(a, t)); }
            case 2 -> { t = w(3); same("line(" + l + "," + t + ")", x.line(l, t), m.line(l, t)); }
            case 3 -> same("degree(" + a + ")", x.degree(a), m.degree(a));
            case 4 -> same("far(" + a + "," + c + ")", x.far(a, c), m.far(a, c));
            case 5 -> same("ways(" + a + "," + c + ")", x.ways(a, c), m.ways(a, c));
            case 6 -> same("between(" + a + "," + c + ")", x.between(a, c), m.between(a, c));
            case 7 -> same("reach(" + a + ")", x.reach(a), m.reach(a));
            case 8 -> { t = w(1); same("price(" + a + "," + c + "," + t + ")", x.price(a, c, t), m.price(a, c, t)); }
            case 9 -> { t = r.nextInt(8) - 2; same("road(" + a + "," + c + "," + t + ")", x.road(a, c, t), m.road(a, c, t)); }
            case 10 -> same("spread()", x.spread(), m.spread());
            case 11 -> same("alike(" + l + "," + q + ")", x.alike(l, q), m.alike(l, q));
            case 12 -> { t = w(3); same("sort(" + k + "," + t + ")", x.sort(k, t), m.sort(k, t)); }
            case 13 -> { t = w(1); same("shows(" + t + ")", x.shows(t), m.shows(t)); }
            case 14 -> same("sides(" + a + ")", x.sides(a), m.sides(a));
            case 15 -> { t = m.sits() && r.nextBoolean() && m.node(a) ? m.sides(a) ^ (r.nextInt(3) == 0 ? 1 << r.nextInt(32) : 0) : r.nextInt(); same("at(" + t + ")", x.at(t), m.at(t)); }
            case 16 -> same("cross(" + k + "," + j + ")", x.cross(k, j), m.cross(k, j));
            case 17 -> { int f = 2 * k + r.nextInt(2), g = 2 * j + r.nextInt(2); same("fit(" + f + "," + g + ")", x.fit(f, g), m.fit(f, g)); }
            case 18 -> { t = r.nextInt(20) == 0 ? r.nextInt() : w(4); same("cubes(" + t + ")", x.cubes(t), m.cubes(t)); }
            case 19 -> { t = w(1); same("most(" + t + ")", x.most(t), m.most(t)); }
            case 20 -> same("opposite(" + a + ")", x.opposite(a), m.opposite(a));
            case 21 -> { t = w(1); same("even(" + t + ")", x.even(t), m.even(t)); }
            case 22 -> same("few()", x.few(), m.few());
            case 23 -> same("median(" + a + "," + c + "," + d + ")", x.median(a, c, d), m.median(a, c, d));
            case 24 -> { t = w(3); same("medians(" + t + ")", x.medians(t), m.medians(t)); }
            case 25 -> { t = w(2); same("winner(" + t + ")", x.winner(t), m.winner(t)); }
            case 26 -> { t = w(1); same("set(" + s + "," + t + ")", x.set(s, t), m.set(s, t)); }
            case 27 -> same("hull(" + s + ")", x.hull(s), m.hull(s));
            case 28 -> same("gate(" + a + "," + s + ")", x.gate(a, s), m.gate(a, s));
            case 29 -> same("fits()", x.fits(), m.fits());
            case 30 -> { t = w(1); same("tells(" + t + ")", x.tells(t), m.tells(t)); }
            case 31 -> { t = r.nextInt(126); same("octet(" + t + ")", x.octet(t), m.octet(t)); }
            case 32 -> { t = w(5); same("status(" + t + ")", x.status(t), m.status(t)); }
            default -> { t = w(2); same("fault(" + t + ")", x.fault(t), m.fault(t)); }
        }
    }

    private void tellBytes() {
        switch (r.nextInt(4)) {
            case 0 -> {
                byte[] t = new byte[r.nextInt(10) == 0 ? r.nextInt(20) : 1 + r.nextInt(7)];
                for (int i = 0; i < t.length; i++) t[i] = (byte) (m.n() == 0 || r.nextInt(40) == 0 ? r.nextInt(256) : r.nextInt(m.n()));
                tape(t);
                same("vote()", x.vote(), m.vote());
            }
            case 1 -> {
                byte[] t = new byte[r.nextInt(10) == 0 ? r.nextInt(28) : 2 * (1 + r.nextInt(3))];
                int goal = m.n() == 0 ? 0 : r.nextInt(m.n());
                for (int i = 0; i < t.length; i += 2) {
                    int node = m.n() == 0 || r.nextInt(30) == 0 ? r.nextInt(256) : r.nextInt(m.n());
                    t[i] = (byte) node;
                    if (i + 1 < t.length) t[i + 1] = (byte) (r.nextInt(12) == 0 ? r.nextInt(26) : Math.max(0, m.far(node, goal)));
                }
                tape(t);
                same("see()", x.see(), m.see());
            }
            case 2 -> {
                String s = r.nextInt(6) == 0 ? "zq a b".substring(r.nextInt(6)) : name(r.nextInt(24));
                if (r.nextInt(8) == 0) s = s + " ";
                tape(s.getBytes());
                same("named()", x.named(), m.named());
            }
            default -> {
                same("image()", x.image(), m.image());
                if (r.nextInt(3) != 0) return;
                byte[] t = new byte[m.picture.size()];
                for (int i = 0; i < t.length; i++) t[i] = (byte) (int) m.picture.get(i);
                if (r.nextInt(2) == 0) {
                    int p = r.nextInt(t.length);
                    t[p] = (byte) (r.nextBoolean() ? r.nextInt(256) : r.nextInt(30));
                    if (r.nextInt(3) != 0) {
                        List<Integer> ahead = new ArrayList<>();
                        for (int i = 0; i + 1 < t.length; i++) ahead.add(t[i] & 255);
                        t[t.length - 1] = (byte) Model.check(ahead);
                    }
                }
                if (r.nextInt(8) == 0) t = java.util.Arrays.copyOf(t, r.nextInt(t.length + 2));
                tape(t);
                same("on()", b(x.on()), b(m.on()));
            }
        }
    }

    private int[] openable() {
        int all = (1 << m.n()) - 1;
        int both = r.nextInt(1 << m.n());
        int a = both, b = both;
        // parts left over when the shared ones are away go to one side each
        List<int[]> mates = new ArrayList<>();
        for (Model.Line l : m.st.lines) mates.add(new int[] {l.a, l.b});
        int rest = all & ~both;
        while (rest != 0) {
            int part = Integer.lowestOneBit(rest), was = 0;
            while (part != was) {
                was = part;
                for (int[] l : mates) {
                    int ends = 1 << l[0] | 1 << l[1];
                    if ((ends & part) != 0) part |= ends & ~both;
                }
            }
            if (r.nextBoolean()) a |= part; else b |= part;
            rest &= ~part;
        }
        return new int[] {a, b};
    }

    private void act() {
        int a = v(), c = v(), l = e(), k = k();
        int t;
        switch (r.nextInt(12)) {
            case 0, 1 -> same("join(" + a + "," + c + ")", x.join(a, c), m.join(a, c));
            case 2 -> same("cut(" + l + ")", b(x.cut(l)), b(m.cut(l)));
            case 3 -> { t = r.nextInt(11); same("toll(" + l + "," + t + ")", b(x.toll(l, t)), b(m.toll(l, t))); }
            case 4, 5 -> same("grow(" + a + ")", x.grow(a), m.grow(a));
            case 6 -> same("drop(" + a + ")", b(x.drop(a)), b(m.drop(a)));
            case 7 -> same("press(" + k + ")", x.press(k), m.press(k));
            case 8 -> {
                int[] sets = m.n() > 0 && r.nextInt(4) != 0 ? openable() : new int[] {bits(), bits()};
                same("open(" + sets[0] + "," + sets[1] + ")", x.open(sets[0], sets[1]), m.open(sets[0], sets[1]));
            }
            case 9 -> { t = r.nextInt(4) == 0 ? r.nextInt(44) - 1 : 1 + r.nextInt(3); same("chance(" + t + ")", x.chance(t), m.chance(t)); }
            case 10 -> same("undo()", b(x.undo()), b(m.undo()));
            default -> { t = r.nextInt() >> r.nextInt(31); same("seed(" + t + ")", b(x.seed(t)), b(m.seed(t))); }
        }
    }

    private void tolls() {
        for (int i = 0; i < m.st.lines.size() && left > 40; i++) {
            int t = 1 + r.nextInt(4);
            same("toll(" + i + "," + t + ")", b(x.toll(i, t)), b(m.toll(i, t)));
        }
    }

    private void allLines() {
        for (int i = 0; i < m.st.lines.size() && left > 40; i++)
            for (int t = 0; t < 4; t++) same("line(" + i + "," + t + ")", x.line(i, t), m.line(i, t));
    }

    private void go() {
        while (left > 120) {
            int t = r.nextInt(100);
            if (t < 3) newNet();
            else if (t < 20) act();
            else if (t < 28) tellBytes();
            else if (t < 29) tolls();
            else if (t < 30 && left > 300) allLines();
            else ask();
            if (t == 0 && m.n() > 0 && m.sits() != m.cubeTells()) {
                wrong++;
                System.out.println("run " + run + ": the reason and the cube's own distances differ");
            }
        }
        while (left > 0) ask();
    }

    public static void main(String[] args) {
        int from = args.length > 1 ? Integer.parseInt(args[0]) : 0;
        int to = args.length > 1 ? Integer.parseInt(args[1]) : 400;
        for (int run = from; run < to; run++) new RandomRuns(run).go();
        System.out.println(calls + " calls, " + wrong + " answers are not as due");
        if (wrong != 0) System.exit(1);
    }
}
