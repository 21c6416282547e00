import java.nio.charset.StandardCharsets;

/** What the tests of boundary cases share: counts of wrong answers, tapes, nets, what can be asked of an object. */
final class Bench {
    static final int NONE = -1;
    static final int MIN = Integer.MIN_VALUE;
    static final int MAX = Integer.MAX_VALUE;
    static final int[] FAR_OFF = {-2, 24, 25, 60, 61, 255, 256, MIN, MIN + 1, MAX, MAX - 1};
    /** A ring of four with a tail: it sits, with directions 0, 1 that cross, and 2. */
    static final String TAIL = "nodes a,b,c,d,e;way a,b,c,d,a;way d,e;";
    static final String TWOTHREE = "nodes a,b,c,d,e;way a,c,b,d,a;way a,e,b;";
    static final String TRIANGLE = "nodes a,b,c;way a,b,c,a;";
    static final String PATH = "nodes a,b,c,d;way a,b,c,d;";
    static final String TWO_PARTS = "nodes a,b,c,d;way a,b;way c,d;";
    static final String STAR = "nodes o,a,b,c;way a,o,b;way o,c;";
    static final String HEXAGON = "nodes a,b,c,d,e,f;way a,b,c,d,e,f,a;";
    static final String CUBE =
        "nodes a,b,c,d,e,f,g,h;way a,b,d,c,a;way e,f,h,g,e;way a,e;way b,f;way c,g;way d,h;";

    interface Call {
        int on(CubeNets x);
    }

    private static int wrong = 0;
    private static int asked = 0;
    private static int edges = 0;
    private static String edge = "";

    private Bench() { }

    /** The sentence of the document that the answers asked next belong to. */
    static void edge(String sentence) {
        edges++;
        edge = sentence;
    }

    static void due(String call, long got, long want) {
        asked++;
        if (got != want) {
            wrong++;
            System.out.println(edge + ": " + call + " answered " + got + ", due is " + want);
        }
    }

    static void yes(String call, boolean got) { due(call, got ? 1 : 0, 1); }

    static void no(String call, boolean got) { due(call, got ? 1 : 0, 0); }

    static void none(String call, int got) { due(call, got, NONE); }

    static void finish() {
        System.out.println(edges + " boundary cases, " + asked + " answers asked, " + wrong + " not as due");
        if (wrong != 0) System.exit(1);
    }

    // ---- tapes, nets

    static CubeNets feed(CubeNets x, byte[] bytes) {
        for (int i = 0; i < bytes.length; i += 20) {
            int[] w = new int[5];
            for (int k = 0; k < 20; k++) w[k / 4] = w[k / 4] << 8 | (i + k < bytes.length ? bytes[i + k] & 255 : 33);
            x.feed(w[0], w[1], w[2], w[3], w[4]);
        }
        if (!x.end(bytes.length)) throw new IllegalStateException("tape");
        return x;
    }

    static CubeNets tape(CubeNets x, String text) { return feed(x, text.getBytes(StandardCharsets.ISO_8859_1)); }

    static CubeNets bytes(CubeNets x, int... row) {
        byte[] b = new byte[row.length];
        for (int i = 0; i < b.length; i++) b[i] = (byte) row[i];
        return feed(x, b);
    }

    static CubeNets of(String text) {
        CubeNets x = tape(new CubeNets(), text);
        if (x.net() < 1) throw new IllegalStateException(text + " has fault " + x.fault(0) + " at " + x.fault(1));
        return x;
    }

    /** A net with votes, rows seen, prices and acts that can be undone. */
    static CubeNets rich(String text) {
        CubeNets x = of(text);
        bytes(x, 0, 1, 1).vote();
        bytes(x, 0, 1).see();
        x.toll(0, 3);
        x.toll(1, 9);
        return x;
    }

    /** So many nodes with the first so many lines: 0 to 1, 0 to 2 and on, then from 1 on, and so on. */
    static CubeNets full(int nodes, int lines) {
        int[] ahead = new int[2 + 2 * lines];
        ahead[0] = nodes;
        ahead[1] = lines;
        int at = 2;
        for (int a = 0; a < nodes; a++)
            for (int b = a + 1; b < nodes && at < ahead.length; b++) {
                ahead[at++] = a;
                ahead[at++] = b;
            }
        CubeNets x = new CubeNets();
        if (at < ahead.length || !bytes(x, picture(ahead)).on()) throw new IllegalStateException("image");
        return x;
    }

    static CubeNets path(int nodes) {
        String r = row(nodes, ",");
        return of("nodes " + r + (nodes > 1 ? ";way " + r : "") + ";");
    }

    /** The bytes of an image behind what goes ahead of its last one. */
    static int[] picture(int... ahead) {
        int c = 167;
        int[] row = new int[ahead.length + 1];
        for (int i = 0; i < ahead.length; i++) {
            row[i] = ahead[i];
            c = (3 * c + ahead[i]) % 251;
        }
        row[ahead.length] = c;
        return row;
    }

    static String row(int count, String between) {
        StringBuilder s = new StringBuilder();
        for (int i = 0; i < count; i++) s.append(i == 0 ? "" : between).append((char) ('a' + i));
        return s.toString();
    }

    static int bits(int... nodes) {
        int b = 0;
        for (int v : nodes) b |= 1 << v;
        return b;
    }

    static int first(int count) { return (1 << count) - 1; }

    // ---- refused calls

    /** true is 1, false is NONE: so that a refused call of either kind answers NONE. */
    static int as(boolean answer) { return answer ? 1 : NONE; }

    /** What can be asked of an object without changing it, but for its refusals and its tape. */
    static String seen(CubeNets x) {
        StringBuilder s = new StringBuilder();
        for (int i = 0; i < 8; i++) s.append(x.has(i)).append(' ');
        for (int v = 0; v < x.has(0); v++) s.append(x.letter(v, 0)).append(' ');
        for (int l = 0; l < x.has(1); l++) {
            s.append(x.line(l, 0)).append('-').append(x.line(l, 1)).append(':').append(x.line(l, 3)).append(' ');
        }
        for (int i = 0; i < 3; i++) s.append(x.winner(i)).append(' ');
        return s.append(x.fits()).append(' ').append(x.octet(0)).toString();
    }

    /** The call answers NONE, is counted once, where it is due, and all stays. */
    static void refused(String call, CubeNets x, int kind, Call what) {
        String ahead = seen(x);
        int[] counts = new int[6];
        for (int i = 0; i < 6; i++) counts[i] = x.status(i);
        counts[kind]++;
        due(call, what.on(x), NONE);
        for (int i = 0; i < 6; i++) due("status(" + i + ") behind " + call, x.status(i), counts[i]);
        String behind = seen(x);
        due("what stays behind " + call + " (" + ahead + " | " + behind + ")", ahead.equals(behind) ? 1 : 0, 1);
    }

    /** The call answers as due and nothing is counted as refused. */
    static void taken(String call, CubeNets x, Call what, int want) {
        int ahead = 0;
        for (int i = 0; i < 6; i++) ahead += x.status(i);
        due(call, what.on(x), want);
        int behind = 0;
        for (int i = 0; i < 6; i++) behind += x.status(i);
        due("refusals behind " + call, behind, ahead);
    }
}
