/** Boundary cases of promises 40 to 53 and of ACTS in Terms II: acts, the seed, images, refusals. */
public final class EdgesActs {
    private static final int NONE = Bench.NONE;
    private static final int MIN = Bench.MIN;
    private static final int MAX = Bench.MAX;

    private static void line(CubeNets x, int line, int low, int high, int price) {
        Bench.due("line(" + line + ",0)", x.line(line, 0), low);
        Bench.due("line(" + line + ",1)", x.line(line, 1), high);
        Bench.due("line(" + line + ",3)", x.line(line, 3), price);
    }

    private static void lines(CubeNets x, int[][] want) {
        Bench.due("has(1)", x.has(1), want.length);
        for (int l = 0; l < want.length; l++) line(x, l, want[l][0], want[l][1], want[l][2]);
    }

    private static void p40() {
        Bench.edge("40: A LINE comes: its number; of PRICE 1, the lower end first");
        CubeNets x = Bench.of(Bench.PATH);
        Bench.taken("join(3,0)", x, y -> y.join(3, 0), 3);
        lines(x, new int[][] {{0, 1, 1}, {1, 2, 1}, {2, 3, 1}, {0, 3, 1}});
        Bench.edge("40: refused (2), when there is one");
        Bench.refused("join(0,3)", x, 2, y -> y.join(0, 3));
        Bench.refused("join(1,0)", x, 2, y -> y.join(1, 0));
        Bench.edge("40: refused (2), when they are one");
        Bench.refused("join(2,2)", x, 2, y -> y.join(2, 2));
        Bench.edge("40: refused (2), when there are none such");
        CubeNets z = Bench.rich(Bench.PATH);
        for (int v : new int[] {-1, 4, MIN, MAX}) {
            Bench.refused("join(" + v + ",0)", z, 2, y -> y.join(v, 0));
            Bench.refused("join(0," + v + ")", z, 2, y -> y.join(0, v));
        }
        Bench.edge("40: refused (2), when there are 60");
        CubeNets u = Bench.full(24, 59);
        Bench.taken("the 60th", u, y -> y.join(22, 23), 59);
        Bench.refused("the 61st", u, 2, y -> y.join(21, 23));
        Bench.edge("40: two parts become one");
        CubeNets w = Bench.of(Bench.TWO_PARTS);
        w.join(1, 2);
        Bench.due("far(0,3)", w.far(0, 3), 3);
        Bench.due("has(6)", w.has(6), 0);
    }

    private static void p41() {
        Bench.edge("II: one goes (those behind have numbers 1 less)");
        CubeNets x = Bench.rich(Bench.PATH);
        x.toll(2, 5);
        Bench.taken("cut(0)", x, y -> Bench.as(y.cut(0)), 1);
        lines(x, new int[][] {{1, 2, 9}, {2, 3, 5}});
        Bench.taken("the last", x, y -> Bench.as(y.cut(1)), 1);
        lines(x, new int[][] {{1, 2, 9}});
        Bench.taken("the only one", x, y -> Bench.as(y.cut(0)), 1);
        Bench.due("has(1)", x.has(1), 0);
        Bench.due("has(0)", x.has(0), 4);
        Bench.edge("41: refused (2), when there is none such");
        Bench.refused("cut(0) of no LINES", x, 2, y -> Bench.as(y.cut(0)));
        CubeNets z = Bench.rich(Bench.PATH);
        for (int l : new int[] {-1, 3, 60, MIN, MAX}) Bench.refused("cut(" + l + ")", z, 2, y -> Bench.as(y.cut(l)));
        Bench.edge("41: the last of 60");
        CubeNets u = Bench.full(24, 60);
        Bench.yes("cut(59)", u.cut(59));
        Bench.no("cut(59)", u.cut(59));
        line(u, 58, 2, 16, 1);
    }

    private static void p42() {
        Bench.edge("42: another PRICE (1 .. 9)");
        CubeNets x = Bench.of(Bench.PATH);
        Bench.taken("toll(2,9)", x, y -> Bench.as(y.toll(2, 9)), 1);
        Bench.taken("toll(2,1)", x, y -> Bench.as(y.toll(2, 1)), 1);
        Bench.due("has(5)", x.has(5), 2);
        Bench.edge("42: refused (2), when it can't be");
        for (int p : new int[] {0, 10, -1, MIN, MAX}) Bench.refused("toll(0," + p + ")", x, 2, y -> Bench.as(y.toll(0, p)));
        Bench.edge("42: refused (2), when it is that");
        CubeNets z = Bench.rich(Bench.PATH);
        Bench.refused("toll(2,1)", z, 2, y -> Bench.as(y.toll(2, 1)));
        Bench.refused("toll(1,9)", z, 2, y -> Bench.as(y.toll(1, 9)));
        Bench.edge("42: refused (2), when there is none such");
        for (int l : new int[] {-1, 3, 60, MIN, MAX}) Bench.refused("toll(" + l + ",2)", z, 2, y -> Bench.as(y.toll(l, 2)));
        Bench.edge("42: a price changes what is FAIR and the cheapest ways, not FAR");
        CubeNets u = Bench.of(Bench.TAIL);
        Bench.due("has(7)", u.has(7), 1);
        Bench.due("price(0,1,0)", u.price(0, 1, 0), 1);
        u.toll(0, 9);
        Bench.due("has(7)", u.has(7), 0);
        Bench.due("price(0,1,0)", u.price(0, 1, 0), 3);
        Bench.due("far(0,1)", u.far(0, 1), 1);
        u.undo();
        Bench.due("has(7)", u.has(7), 1);
        Bench.due("price(0,1,0)", u.price(0, 1, 0), 1);
    }

    private static void p43() {
        Bench.edge("43: A NODE comes by a LINE to one: its number is how many there were; it has no NAME");
        CubeNets x = Bench.path(1);
        Bench.taken("grow(0)", x, y -> y.grow(0), 1);
        lines(x, new int[][] {{0, 1, 1}});
        Bench.due("letter(1,0)", x.letter(1, 0), 0);
        Bench.edge("43: refused (2), when there is none such");
        for (int v : new int[] {-1, 2, 24, MIN, MAX}) Bench.refused("grow(" + v + ")", x, 2, y -> y.grow(v));
        Bench.edge("43: refused (2), when there are 24 NODES");
        CubeNets z = Bench.path(23);
        Bench.taken("the 24th", z, y -> y.grow(22), 23);
        Bench.refused("the 25th", z, 2, y -> y.grow(23));
        Bench.edge("43: refused (2), when there are 60 LINES");
        CubeNets u = Bench.full(22, 59);
        Bench.taken("the 60th", u, y -> y.grow(0), 22);
        Bench.refused("the 61st", u, 2, y -> y.grow(0));
    }

    private static void p44() {
        Bench.edge("II: one goes, with its LINES (NODES, LINES behind have numbers less)");
        CubeNets x = Bench.of(Bench.TAIL);
        for (int l = 0; l < 5; l++) x.toll(l, l + 2);
        Bench.taken("the first", x, y -> Bench.as(y.drop(0)), 1);
        lines(x, new int[][] {{0, 1, 3}, {1, 2, 4}, {2, 3, 6}});
        for (int v = 0; v < 4; v++) Bench.due("letter(" + v + ",0)", x.letter(v, 0), v + 2);
        Bench.taken("the last", x, y -> Bench.as(y.drop(3)), 1);
        lines(x, new int[][] {{0, 1, 3}, {1, 2, 4}});
        Bench.edge("44: refused (2), when there is none such");
        for (int v : new int[] {-1, 3, 24, MIN, MAX}) Bench.refused("drop(" + v + ")", x, 2, y -> Bench.as(y.drop(v)));
        Bench.edge("44: refused (2), when there is no other one");
        CubeNets z = Bench.of("nodes a,b;way a,b;");
        Bench.taken("one of two", z, y -> Bench.as(y.drop(0)), 1);
        Bench.due("has(1)", z.has(1), 0);
        Bench.due("letter(0,0)", z.letter(0, 0), 2);
        Bench.refused("the only one", z, 2, y -> Bench.as(y.drop(0)));
        Bench.refused("none such", z, 2, y -> Bench.as(y.drop(1)));
        Bench.edge("44: NODE 23 of 24, and all LINES with the first");
        CubeNets u = Bench.full(24, 23);
        Bench.yes("drop(23)", u.drop(23));
        Bench.due("has(1)", u.has(1), 22);
        Bench.yes("drop(0)", u.drop(0));
        Bench.due("has(1)", u.has(1), 0);
        Bench.due("has(0)", u.has(0), 22);
    }

    private static void p45() {
        Bench.edge("45: refused (3), when there is none such");
        CubeNets x = Bench.rich(Bench.TAIL);
        for (int k : new int[] {-1, 3, 60, MIN, MAX}) Bench.refused("press(" + k + ")", x, 3, y -> y.press(k));
        Bench.refused("press(0) of no LINES", Bench.full(3, 0), 3, y -> y.press(0));
        Bench.edge("II: of two LINES between the same NODES the first one stays, with its PRICE; all are numbered anew");
        CubeNets z = Bench.of(Bench.TAIL);
        for (int l = 0; l < 5; l++) z.toll(l, l + 2);
        Bench.taken("press(0)", z, y -> y.press(0), 3);
        lines(z, new int[][] {{0, 1, 3}, {1, 2, 6}});
        int[] letters = {1, 3, 5};
        for (int v = 0; v < 3; v++) Bench.due("letter(" + v + ",0)", z.letter(v, 0), letters[v]);
        Bench.edge("II: all NODES that hang together become one, the least; all LINES go");
        CubeNets u = Bench.of("nodes a,b,c;way c,b;way b,a;");
        Bench.due("press(0): c goes into b", u.press(0), 2);
        Bench.due("letter(1,0)", u.letter(1, 0), 2);
        lines(u, new int[][] {{0, 1, 1}});
        Bench.due("press(0)", u.press(0), 1);
        Bench.due("has(1)", u.has(1), 0);
        Bench.due("letter(0,0)", u.letter(0, 0), 1);
        Bench.refused("press(0) of one NODE", u, 3, y -> y.press(0));
        Bench.edge("45: a net that sits in no cube, or has parts that are apart");
        Bench.due("a triangle", Bench.of(Bench.TRIANGLE).press(0), 1);
        Bench.due("two by three", Bench.of(Bench.TWOTHREE).press(0), 1);
        CubeNets w = Bench.of(Bench.TWO_PARTS);
        Bench.due("two parts", w.press(1), 3);
        lines(w, new int[][] {{0, 1, 1}});
        Bench.due("has(6)", w.has(6), 1);
        Bench.edge("45: the last of 23 CLASSES");
        CubeNets t = Bench.path(24);
        Bench.none("press(23)", t.press(23));
        Bench.due("press(22)", t.press(22), 23);
        Bench.none("press(22)", t.press(22));
    }

    private static void p46() {
        CubeNets x = Bench.rich(Bench.PATH);
        Bench.edge("46: refused (3): together they have not all");
        Bench.refused("open(7,7)", x, 3, y -> y.open(7, 7));
        Bench.refused("open(0,0)", x, 3, y -> y.open(0, 0));
        Bench.edge("46: refused (3): none in both");
        Bench.refused("open(3,12)", x, 3, y -> y.open(3, 12));
        Bench.refused("open(15,0)", x, 3, y -> y.open(15, 0));
        Bench.refused("open(0,15)", x, 3, y -> y.open(0, 15));
        Bench.edge("46: refused (3): one of A alone with a LINE to one of B alone");
        CubeNets z = Bench.rich(Bench.PATH);
        Bench.refused("open(a b d, c d)", z, 3, y -> y.open(11, 12));
        Bench.refused("open(c d, a b d)", z, 3, y -> y.open(12, 11));
        Bench.refused("open(a, a b c d less c) and so on", z, 3, y -> y.open(7, 9));
        Bench.edge("46: refused (3): a set of more than the NODES");
        CubeNets u = Bench.rich(Bench.PATH);
        for (int s : new int[] {31, -1, 15 | MIN, MAX}) {
            Bench.refused("open(" + s + ",15)", u, 3, y -> y.open(s, 15));
            Bench.refused("open(15," + s + ")", u, 3, y -> y.open(15, s));
        }
        p46Shapes();
        p46Limits();
    }

    private static void p46Shapes() {
        Bench.edge("II: OPENED by all and all: each is doubled");
        CubeNets x = Bench.of("nodes a,b;way a,b;");
        x.toll(0, 7);
        Bench.taken("open(3,3)", x, y -> y.open(3, 3), 4);
        lines(x, new int[][] {{0, 1, 7}, {2, 3, 7}, {0, 2, 1}, {1, 3, 1}});
        for (int v = 0; v < 4; v++) Bench.due("letter(" + v + ",0)", x.letter(v, 0), v < 2 ? v + 1 : 0);
        Bench.edge("II: OPENED by all and one: a leaf comes");
        CubeNets y = Bench.of(Bench.PATH);
        Bench.taken("open(15,8)", y, z -> z.open(15, 8), 5);
        lines(y, new int[][] {{0, 1, 1}, {1, 2, 1}, {2, 3, 1}, {3, 4, 1}});
        Bench.edge("II: OPENED by one and all: its LINES are moved to the second one, and keep number and PRICE");
        CubeNets u = Bench.of(Bench.STAR);
        for (int l = 0; l < 3; l++) u.toll(l, l + 4);
        Bench.taken("open(1,15)", u, z -> z.open(1, 15), 5);
        lines(u, new int[][] {{1, 4, 4}, {2, 4, 5}, {3, 4, 6}, {0, 4, 1}});
        Bench.edge("II: A alone, both, B alone");
        CubeNets w = Bench.of(Bench.TAIL);
        for (int l = 0; l < 5; l++) w.toll(l, l + 2);
        Bench.taken("open(a b d, b c d e)", w, z -> z.open(Bench.bits(0, 1, 3), Bench.bits(1, 2, 3, 4)), 7);
        lines(w, new int[][] {{0, 1, 2}, {2, 5, 3}, {2, 6, 4}, {0, 3, 5}, {4, 6, 6}, {1, 5, 1}, {3, 6, 1}});
        Bench.edge("II: parts that are apart may lie on either side");
        CubeNets t = Bench.of(Bench.TWO_PARTS);
        Bench.taken("open(a b c, c d)", t, z -> z.open(7, 12), 5);
        lines(t, new int[][] {{0, 1, 1}, {3, 4, 1}, {2, 4, 1}});
        Bench.edge("II: of one NODE a LINE");
        CubeNets one = Bench.path(1);
        Bench.taken("open(1,1)", one, z -> z.open(1, 1), 2);
        lines(one, new int[][] {{0, 1, 1}});
    }

    private static void p46Limits() {
        Bench.edge("46: refused (3), when there would be more than 24 NODES");
        Bench.taken("24", Bench.full(12, 0), y -> y.open(4095, 4095), 24);
        Bench.refused("25", Bench.full(13, 0), 3, y -> y.open(8191, 4095));
        Bench.refused("26", Bench.full(13, 0), 3, y -> y.open(8191, 8191));
        Bench.taken("24 of 23", Bench.path(23), y -> y.open(Bench.first(23), 1), 24);
        Bench.refused("25 of 24", Bench.path(24), 3, y -> y.open(Bench.first(24), 1));
        Bench.refused("48 of 24", Bench.path(24), 3, y -> y.open(Bench.first(24), Bench.first(24)));
        Bench.edge("46: or 60 LINES");
        Bench.taken("60: 24 and 24 and 12", Bench.full(12, 24), y -> y.open(4095, 4095), 24);
        Bench.refused("62: 25 and 25 and 12", Bench.full(12, 25), 3, y -> y.open(4095, 4095));
        Bench.refused("61: 25 and 25 and 11", Bench.full(11, 25), 3, y -> y.open(2047, 2047));
        Bench.taken("60: 25 and 25 and 10", Bench.full(10, 25), y -> y.open(1023, 1023), 20);
        Bench.taken("60: 59 and 1", Bench.full(12, 59), y -> y.open(4095, 1), 13);
        Bench.refused("61: 60 and 1", Bench.full(12, 60), 3, y -> y.open(4095, 1));
    }

    private static long next(long seed) { return (1103515245L * seed + 12345L) % (1L << 31); }

    private static int drawn(long seed, int m) { return (int) (seed / 64 % m); }

    private static boolean same(CubeNets x, CubeNets y) {
        int n = x.image();
        if (n != y.image()) return false;
        for (int k = 0; k < n; k++) if (x.octet(k) != y.octet(k)) return false;
        return true;
    }

    /** A seed whose first draw of 4 is as asked. */
    private static int seedFor(int which, int from) {
        int seed = from;
        while (drawn(next(seed), 4) != which) seed++;
        return seed;
    }

    private static void p47() {
        Bench.edge("47: n times (1 .. 40)");
        CubeNets x = Bench.rich(Bench.TAIL);
        for (int n : new int[] {0, 41, -1, MIN, MAX}) Bench.refused("chance(" + n + ")", x, 3, y -> y.chance(n));
        Bench.edge("47: refused, the seed stays");
        CubeNets fresh = Bench.rich(Bench.TAIL);
        Bench.due("chance(40)", x.chance(40), fresh.chance(40));
        Bench.yes("the same net", same(x, fresh));
        Bench.edge("47: refused (3), when there are none");
        Bench.refused("chance(1)", new CubeNets(), 3, y -> y.chance(1));
        Bench.edge("47: one ACT, undone at once");
        CubeNets z = Bench.of(Bench.TAIL);
        z.seed(5);
        z.chance(40);
        Bench.due("has(5)", z.has(5), 1);
        z.undo();
        Bench.yes("the same net", same(z, Bench.of(Bench.TAIL)));
        Bench.edge("47: 40 at once are as 40 one by one, 1 is one");
        CubeNets once = Bench.of(Bench.CUBE), often = Bench.of(Bench.CUBE);
        once.chance(40);
        for (int i = 0; i < 40; i++) often.chance(1);
        Bench.yes("the same net", same(once, often));
        Bench.due("has(5)", often.has(5), 20);
        p47GoneOver();
        p47Classes();
    }

    /** What is drawn is drawn, even where the act can't be: the next one goes on from there. */
    private static void goneOver(String why, CubeNets x, CubeNets twin, int seed, int draws) {
        long now = seed;
        for (int i = 0; i < draws; i++) now = next(now);
        x.seed(seed);
        int acts = x.has(5);
        Bench.due(why, x.chance(1), twin.has(0));
        Bench.yes(why + ": all stays", same(x, twin));
        Bench.due(why + ": it is an ACT", x.has(5), Math.min(20, acts + 1));
        twin.seed((int) now);
        Bench.due(why + ": the next", x.chance(3), twin.chance(3));
        Bench.yes(why + ": the next", same(x, twin));
    }

    private static void p47GoneOver() {
        Bench.edge("II: what can't be is gone over: a NODE of 24, a LINE of 60");
        for (int which = 0; which < 2; which++) {
            goneOver("24 NODES", Bench.path(24), Bench.path(24), seedFor(which, 10), 2);
            goneOver("60 LINES", Bench.full(12, 60), Bench.full(12, 60), seedFor(which, 20), 2);
        }
        Bench.edge("II: what can't be is gone over: a LINE from one to itself");
        goneOver("one NODE", Bench.path(1), Bench.path(1), seedFor(2, 30), 3);
        int seed = 0;
        while (drawn(next(seed), 4) != 2 || drawn(next(next(seed)), 5) != drawn(next(next(next(seed))), 5)) seed++;
        goneOver("one to itself", Bench.of(Bench.TAIL), Bench.of(Bench.TAIL), seed, 3);
        Bench.edge("II: what can't be is gone over: a 61st LINE; but one that is there goes");
        CubeNets full = Bench.full(24, 60);
        seed = 0;
        while (drawn(next(seed), 4) != 2 || !free(full, seed)) seed++;
        goneOver("60 LINES", Bench.full(24, 60), Bench.full(24, 60), seed, 3);
        seed = 0;
        while (drawn(next(seed), 4) != 2 || !taken(full, seed)) seed++;
        full.seed(seed);
        full.chance(1);
        Bench.due("has(1)", full.has(1), 59);
        Bench.edge("II: a DRAW of the CLASSES (of no LINES: 1)");
        goneOver("no LINES", Bench.full(5, 0), Bench.full(5, 0), seedFor(3, 40), 2);
    }

    private static int farOfDrawn(CubeNets x, int seed) {
        int n = x.has(0);
        return x.far(drawn(next(next(seed)), n), drawn(next(next(next(seed))), n));
    }

    private static boolean free(CubeNets x, int seed) { return farOfDrawn(x, seed) > 1; }

    private static boolean taken(CubeNets x, int seed) { return farOfDrawn(x, seed) == 1; }

    private static void p47Classes() {
        Bench.edge("II: 3: a DRAW of the CLASSES, that is PRESSED");
        for (int i = 0, seed = 0; i < 12; i++, seed++) {
            seed = seedFor(3, seed);
            CubeNets x = Bench.of(Bench.CUBE), y = Bench.of(Bench.CUBE);
            x.seed(seed);
            Bench.due("chance(1)", x.chance(1), y.press(drawn(next(next(seed)), 3)));
            Bench.yes("the same net", same(x, y));
        }
        Bench.edge("II: 2: a LINE between them comes");
        for (int i = 0, seed = 0; i < 12; i++, seed++) {
            seed = seedFor(2, seed);
            CubeNets x = Bench.full(24, 0), y = Bench.full(24, 0);
            x.seed(seed);
            Bench.due("chance(1)", x.chance(1), 24);
            y.join(drawn(next(next(seed)), 24), drawn(next(next(next(seed))), 24));
            Bench.yes("the same net", same(x, y));
            Bench.due("of PRICE 1", x.line(0, 3), y.line(0, 3));
        }
        Bench.edge("II: 0, 1: a NODE comes by a LINE to it");
        for (int which = 0; which < 2; which++)
            for (int i = 0, seed = 0; i < 6; i++, seed++) {
                seed = seedFor(which, seed);
                CubeNets x = Bench.of(Bench.CUBE), y = Bench.of(Bench.CUBE);
                x.seed(seed);
                Bench.due("chance(1)", x.chance(1), 9);
                y.grow(drawn(next(next(seed)), 8));
                Bench.yes("the same net", same(x, y));
                Bench.due("of PRICE 1", x.line(12, 3), 1);
            }
    }

    private static void p48() {
        Bench.edge("48: refused (4), when none can be");
        CubeNets x = Bench.of(Bench.TAIL);
        Bench.refused("undo()", x, 4, y -> Bench.as(y.undo()));
        x.toll(0, 2);
        Bench.taken("undo()", x, y -> Bench.as(y.undo()), 1);
        Bench.refused("undo()", x, 4, y -> Bench.as(y.undo()));
        Bench.edge("48: refused acts and tapes are none that can be undone");
        x.toll(0, 1);
        x.join(0, 0);
        x.press(9);
        x.chance(0);
        Bench.bytes(x, 1).vote();
        Bench.bytes(x, 1, 1).see();
        x.seed(3);
        x.image();
        Bench.due("has(5)", x.has(5), 0);
        Bench.no("undo()", x.undo());
        Bench.edge("II: The last 20 can be undone, of more, again and again");
        CubeNets y = Bench.path(1);
        for (int round = 0; round < 3; round++) {
            for (int i = 0; i < 20; i++) Bench.due("grow(0)", y.grow(0), i + 1);
            for (int i = 19; i >= 0; i--) {
                Bench.due("has(5)", y.has(5), i + 1);
                Bench.yes("undo()", y.undo());
                Bench.due("has(0)", y.has(0), i + 1);
            }
            Bench.no("undo()", y.undo());
        }
        p48Ring();
        p48Kinds();
    }

    private static void p48Ring() {
        Bench.edge("48: 21 ACTS, 20 of them undone");
        CubeNets x = Bench.path(1);
        for (int i = 0; i < 21; i++) x.grow(0);
        for (int i = 0; i < 20; i++) Bench.yes("undo()", x.undo());
        Bench.no("undo()", x.undo());
        Bench.due("has(0)", x.has(0), 2);
        Bench.edge("48: ACTS behind undone ones");
        CubeNets y = Bench.path(2);
        for (int i = 0; i < 33; i++) y.toll(0, 2 + i % 8);
        for (int i = 0; i < 7; i++) y.undo();
        Bench.due("line(0,3)", y.line(0, 3), 2 + 25 % 8);
        Bench.due("has(5)", y.has(5), 13);
        for (int i = 0; i < 9; i++) y.grow(0);
        Bench.due("has(5)", y.has(5), 20);
        for (int i = 0; i < 9; i++) y.undo();
        Bench.due("has(0)", y.has(0), 2);
        for (int i = 0; i < 11; i++) {
            Bench.yes("undo()", y.undo());
            Bench.due("line(0,3)", y.line(0, 3), 2 + (24 - i) % 8);
        }
        Bench.no("undo()", y.undo());
    }

    /** Each kind of act is undone: nodes, names, lines, prices come back. */
    private static void p48Kinds() {
        String[] names = {"join", "cut", "toll", "grow", "drop", "press", "open", "chance"};
        Bench.Call[] acts = {y -> y.join(0, 2), y -> Bench.as(y.cut(1)), y -> Bench.as(y.toll(4, 8)), y -> y.grow(2),
            y -> Bench.as(y.drop(1)), y -> y.press(0), y -> y.open(31, 31), y -> y.chance(40)};
        for (int i = 0; i < acts.length; i++) {
            Bench.edge("48: undone: " + names[i]);
            CubeNets x = Bench.rich(Bench.TAIL);
            String ahead = Bench.seen(x);
            Bench.yes("it is done", acts[i].on(x) != NONE);
            Bench.due("has(5)", x.has(5), 3);
            Bench.yes("undo()", x.undo());
            Bench.yes("all is as it was", ahead.equals(Bench.seen(x)));
            Bench.due("sides(2)", x.sides(2), 3);
            Bench.due("far(1,4)", x.far(1, 4), 3);
        }
        Bench.edge("48: the seed, what is SEEN, VOTES stay");
        CubeNets x = Bench.of(Bench.TAIL), y = Bench.of(Bench.TAIL);
        x.grow(0);
        x.seed(99);
        Bench.bytes(x, 5, 5).vote();
        Bench.bytes(x, 5, 1, 0, 0, 0, 0).see();
        x.undo();
        Bench.due("has(3)", x.has(3), 2);
        Bench.due("has(4)", x.has(4), 3);
        y.seed(99);
        Bench.due("chance(30)", x.chance(30), y.chance(30));
        x.undo();
        y.undo();
        Bench.due("chance(30)", x.chance(30), y.chance(30));
        Bench.yes("the same net", same(x, y));
    }

    private static void p49() {
        Bench.edge("49: It is 1 at first");
        CubeNets x = Bench.of(Bench.CUBE), y = Bench.of(Bench.CUBE);
        y.seed(1);
        x.chance(17);
        y.chance(17);
        Bench.yes("the same net", same(x, y));
        Bench.edge("49: 0, and the greatest");
        Bench.taken("seed(0)", x, z -> Bench.as(z.seed(0)), 1);
        Bench.taken("seed(the greatest)", x, z -> Bench.as(z.seed(MAX)), 1);
        Bench.edge("49: refused (5), when it is below 0; the seed stays");
        for (int s : new int[] {-1, MIN, MIN + 1}) Bench.refused("seed(" + s + ")", x, 5, z -> Bench.as(z.seed(s)));
        Bench.edge("II: A DRAW, mod 2 to the 31");
        for (int seed : new int[] {0, 1, 2, MAX, MAX - 1, 1 << 30, 1103515245}) {
            CubeNets u = Bench.full(24, 0);
            u.seed(seed);
            long now = seed;
            CubeNets w = Bench.full(24, 0);
            for (int i = 0; i < 12; i++) {
                u.chance(1);
                now = next(now);
                int which = drawn(now, 4);
                now = next(now);
                int one = drawn(now, w.has(0));
                if (which < 2) w.grow(one);
                if (which == 2) {
                    now = next(now);
                    int other = drawn(now, w.has(0));
                    if (w.far(one, other) == 1) throw new IllegalStateException("not looked for");
                    w.join(one, other);
                }
                if (which == 3 && w.has(2) > 0) w.press((int) (now / 64 % w.has(2)));
                Bench.yes("seed " + seed + ", act " + i, same(u, w));
            }
        }
        Bench.edge("49: refused, the seed stays");
        CubeNets a = Bench.of(Bench.CUBE), b = Bench.of(Bench.CUBE);
        a.seed(MAX);
        b.seed(MAX);
        a.seed(-5);
        a.chance(20);
        b.chance(20);
        Bench.yes("the same net", same(a, b));
    }

    private static void image(CubeNets x, int... ahead) {
        int[] want = Bench.picture(ahead);
        Bench.due("image()", x.image(), want.length);
        for (int k = 0; k < want.length; k++) Bench.due("octet(" + k + ")", x.octet(k), want[k]);
        for (int k : new int[] {-1, want.length, 123, MIN, MAX}) Bench.none("octet(" + k + ")", x.octet(k));
    }

    private static void p50() {
        Bench.edge("50: of no NODES");
        image(new CubeNets(), 0, 0);
        Bench.edge("50: of one NODE, of no LINES");
        image(Bench.path(1), 1, 0);
        image(Bench.full(24, 0), 24, 0);
        Bench.edge("50: for each LINE its ends, the lower one first, as they are numbered");
        image(Bench.of("nodes a,b,c;way c,b;way c,a;"), 3, 2, 1, 2, 0, 2);
        Bench.edge("50: of 24 NODES, 60 LINES");
        CubeNets x = Bench.full(24, 60);
        Bench.due("image()", x.image(), 123);
        int c = 167;
        for (int k = 0; k < 122; k++) c = (3 * c + x.octet(k)) % 251;
        Bench.due("octet(122)", x.octet(122), c);
        Bench.none("octet(123)", x.octet(123));
        Bench.edge("51: of the latest image(); NONE when there is none such");
        CubeNets y = Bench.full(3, 2);
        for (int k : new int[] {-1, 0, 1, 122, MIN, MAX}) Bench.none("octet(" + k + ") ahead of any", y.octet(k));
        y.image();
        y.drop(0);
        Bench.due("octet(0)", y.octet(0), 3);
        Bench.due("octet(6)", y.octet(6), Bench.picture(3, 2, 0, 1, 0, 2)[6]);
        image(y, 2, 0);
        Bench.none("a longer one went", y.octet(3));
    }

    private static void p52() {
        int[][] bad = {{}, {1}, {1, 0}, {167}, Bench.picture(), Bench.picture(1)};
        Bench.edge("52: too short");
        for (int[] row : bad) notOn(row);
        Bench.edge("52: 1 to 24 NODES");
        notOn(Bench.picture(0, 0));
        notOn(Bench.picture(25, 0));
        notOn(Bench.picture(255, 0));
        Bench.edge("52: 60 LINES at most");
        notOn(Bench.picture(pairs(24, 61)));
        notOn(Bench.picture(pairs(24, 255)));
        Bench.edge("52: as many LINES as it tells, and the last byte there");
        notOn(Bench.picture(3, 1));
        notOn(Bench.picture(3, 1, 0));
        notOn(Bench.picture(3, 1, 0, 1, 1));
        notOn(Bench.picture(3, 1, 0, 1, 1, 2));
        notOn(Bench.picture(3, 0, 0, 1));
        Bench.edge("52: the last byte");
        int[] row = Bench.picture(3, 2, 0, 1, 1, 2);
        for (int d : new int[] {1, 2, 128, 251, 255}) {
            int[] off = row.clone();
            off[6] = (row[6] + d) & 255;
            notOn(off);
        }
        Bench.edge("52: their ends unlike NODES");
        notOn(Bench.picture(3, 1, 1, 1));
        notOn(Bench.picture(3, 1, 0, 3));
        notOn(Bench.picture(3, 1, 3, 4));
        notOn(Bench.picture(3, 1, 0, 255));
        notOn(Bench.picture(3, 1, 0, 0));
        Bench.edge("52: the lower one first");
        notOn(Bench.picture(3, 1, 1, 0));
        notOn(Bench.picture(3, 2, 0, 1, 2, 1));
        Bench.edge("52: no two LINES like");
        notOn(Bench.picture(3, 2, 0, 1, 0, 1));
        notOn(Bench.picture(3, 3, 0, 1, 1, 2, 0, 1));
        Bench.edge("52: a tape of 800 bytes");
        notOn(new int[800]);
        p52On();
    }

    private static int[] pairs(int nodes, int lines) {
        int[] row = new int[2 + 2 * lines];
        row[0] = nodes;
        row[1] = lines;
        int at = 2;
        for (int a = 0; a < nodes; a++)
            for (int b = a + 1; b < nodes && at < row.length; b++) {
                row[at++] = a;
                row[at++] = b;
            }
        return row;
    }

    /** Refused (5), all staying; the tape goes. */
    private static void notOn(int[] row) {
        CubeNets x = Bench.rich(Bench.TAIL);
        x.image();
        StringBuilder s = new StringBuilder("on() of");
        for (int i = 0; i < row.length && i < 10; i++) s.append(' ').append(row[i]);
        Bench.refused(s.toString(), Bench.bytes(x, row), 5, y -> Bench.as(y.on()));
        Bench.due("the tape goes", x.feed(0, 0, 0, 0, 0), 20);
    }

    private static void p52On() {
        Bench.edge("52: NODES (without NAMES) and LINES (of PRICE 1) are as it tells, nothing can be undone");
        CubeNets x = Bench.rich(Bench.TAIL);
        Bench.taken("on()", Bench.bytes(x, Bench.picture(4, 2, 2, 3, 0, 1)), y -> Bench.as(y.on()), 1);
        lines(x, new int[][] {{2, 3, 1}, {0, 1, 1}});
        Bench.due("has(0)", x.has(0), 4);
        for (int v = 0; v < 4; v++) for (int k = 0; k < 4; k++) Bench.due("letter", x.letter(v, k), 0);
        Bench.none("a name that went", Bench.tape(x, "a").named());
        Bench.due("has(5)", x.has(5), 0);
        Bench.no("undo()", x.undo());
        Bench.due("has(6)", x.has(6), 1);
        Bench.edge("52: the least, and the greatest");
        Bench.taken("1 NODE", Bench.bytes(x, Bench.picture(1, 0)), y -> Bench.as(y.on()), 1);
        Bench.due("has(0)", x.has(0), 1);
        Bench.taken("24 NODES", Bench.bytes(x, Bench.picture(24, 0)), y -> Bench.as(y.on()), 1);
        Bench.due("has(0)", x.has(0), 24);
        Bench.taken("60 LINES", Bench.bytes(x, Bench.picture(pairs(24, 60))), y -> Bench.as(y.on()), 1);
        Bench.due("has(1)", x.has(1), 60);
        Bench.edge("52: The tape (it goes)");
        Bench.due("feed", x.feed(0, 0, 0, 0, 0), 20);
        x.end(0);
        Bench.edge("52: what image() wrote is AN IMAGE, but for no NODES");
        CubeNets y = Bench.of(Bench.CUBE);
        int[] row = new int[y.image()];
        for (int k = 0; k < row.length; k++) row[k] = y.octet(k);
        Bench.yes("on()", Bench.bytes(x, row).on());
        Bench.yes("the same net", same(x, y));
        CubeNets none = new CubeNets();
        none.image();
        Bench.no("on()", Bench.bytes(none, none.octet(0), none.octet(1), none.octet(2)).on());
    }

    private static void p53() {
        Bench.edge("53: NONE for others");
        CubeNets x = Bench.of(Bench.PATH);
        for (int what : new int[] {-1, 6, 7, MIN, MAX}) Bench.none("status(" + what + ")", x.status(what));
        Bench.edge("53: each refusal is counted where it is due");
        String[] names = {"feed", "end", "net", "vote", "see", "join", "cut", "toll", "grow", "drop", "press", "open", "chance",
            "undo", "seed", "on"};
        int[] kinds = {0, 0, 1, 1, 1, 2, 2, 2, 2, 2, 3, 3, 3, 4, 5, 5};
        Bench.Call[] calls = {y -> y.feed(0, 0, 0, 0, 0), y -> Bench.as(y.end(-1)), CubeNets::net, CubeNets::vote, CubeNets::see,
            y -> y.join(1, 1), y -> Bench.as(y.cut(-1)), y -> Bench.as(y.toll(-1, 1)), y -> y.grow(-1), y -> Bench.as(y.drop(-1)),
            y -> y.press(-1), y -> y.open(0, 0), y -> y.chance(0), y -> Bench.as(y.undo()), y -> Bench.as(y.seed(-1)),
            y -> Bench.as(y.on())};
        for (int i = 0; i < calls.length; i++) {
            CubeNets y = Bench.of(Bench.PATH);
            if (i == 0) Bench.feed(y, new byte[800]);
            Bench.refused(names[i] + "()", y, kinds[i], calls[i]);
        }
        Bench.edge("53: other calls that answer NONE are not refused");
        x.named();
        x.fault(9);
        x.has(9);
        x.letter(9, 9);
        x.line(9, 9);
        x.far(9, 9);
        x.road(9, 9, 9);
        x.shows(9);
        x.winner(0);
        x.set(-1, 0);
        x.gate(9, 0);
        x.fits();
        x.tells(0);
        x.octet(9);
        x.status(9);
        for (int i = 0; i < 6; i++) Bench.due("status(" + i + ")", x.status(i), 0);
        Bench.edge("53: they stay behind net(), on(), undo()");
        x.undo();
        Bench.tape(x, Bench.TAIL).net();
        Bench.bytes(x, Bench.picture(2, 0)).on();
        x.grow(0);
        x.undo();
        Bench.due("status(4)", x.status(4), 1);
    }

    public static void main(String[] args) {
        p40();
        p41();
        p42();
        p43();
        p44();
        p45();
        p46();
        p47();
        p48();
        p49();
        p50();
        p52();
        p53();
        Bench.finish();
    }
}
