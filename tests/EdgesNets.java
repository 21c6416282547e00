/** Boundary cases of Terms II and of promises 6, 9 to 29: numbers, lines, far, classes, directions. */
public final class EdgesNets {
    private static final int NONE = Bench.NONE;
    private static final int MIN = Bench.MIN;
    private static final int MAX = Bench.MAX;

    /** What a call of two numbers answers when either is none such: NONE. */
    interface Two {
        int on(int one, int other);
    }

    private static void noneSuch(String call, int count, Two two) {
        for (int v : new int[] {-1, -2, count, count + 1, 64, 256, MIN, MAX}) {
            Bench.none(call + "(" + v + ",0)", two.on(v, 0));
            Bench.none(call + "(0," + v + ")", two.on(0, v));
            Bench.none(call + "(" + v + "," + v + ")", two.on(v, v));
        }
    }

    private static void p6() {
        Bench.edge("6: NONE for others");
        CubeNets x = Bench.of(Bench.TAIL);
        for (int what : new int[] {-1, 8, 9, MIN, MAX}) Bench.none("has(" + what + ")", x.has(what));
        Bench.edge("6: 0 NODES, 1 LINES, full");
        CubeNets y = Bench.full(24, 60);
        Bench.due("has(0)", y.has(0), 24);
        Bench.due("has(1)", y.has(1), 60);
        Bench.edge("6: 2 CLASSES, of no LINES none, of a path all unlike");
        Bench.due("has(2)", Bench.full(24, 0).has(2), 0);
        Bench.due("has(2)", Bench.path(24).has(2), 23);
        Bench.due("has(2)", Bench.path(1).has(2), 0);
        Bench.edge("6: 3 VOTES, 4 rows SEEN, at the most");
        Bench.feed(x, new byte[15]).vote();
        Bench.feed(x, new byte[24]).see();
        Bench.due("has(3)", x.has(3), 15);
        Bench.due("has(4)", x.has(4), 12);
        Bench.edge("6: 5 ACTS that can be undone, at the most 20");
        for (int i = 1; i <= 45; i++) {
            x.toll(0, 1 + i % 9);
            Bench.due("has(5)", x.has(5), Math.min(20, i));
        }
        Bench.edge("6: 6 the REASON (of no NODES 0)");
        Bench.due("has(6)", new CubeNets().has(6), 0);
        Bench.due("has(6) of one", Bench.path(1).has(6), 0);
        Bench.edge("6: 7 whether FAIR (1, 0)");
        Bench.due("no lines", Bench.full(3, 0).has(7), 1);
        CubeNets z = Bench.of(Bench.TAIL);
        z.toll(4, 9);
        Bench.due("a class of one line", z.has(7), 1);
        z.toll(2, 2);
        Bench.due("the last of a class", z.has(7), 0);
        z.toll(0, 2);
        Bench.due("both", z.has(7), 1);
        CubeNets u = Bench.of(Bench.TWO_PARTS);
        u.toll(0, 2);
        Bench.due("parts that are apart", u.has(7), 1);
        CubeNets w = Bench.of(Bench.TWOTHREE);
        Bench.due("a net in no cube", w.has(7), 1);
        w.toll(5, 2);
        Bench.due("a net in no cube", w.has(7), 0);
    }

    private static void reason(String text, int why, int one, int other) {
        CubeNets x = Bench.of(text);
        Bench.due("has(6) of " + text, x.has(6), why);
        Bench.due("shows(0) of " + text, x.shows(0), one);
        Bench.due("shows(1) of " + text, x.shows(1), other);
        for (int what : new int[] {-1, 2, 3, MIN, MAX}) Bench.none("shows(" + what + ")", x.shows(what));
    }

    private static void reasons() {
        Bench.edge("II: 1 two NODES are apart: the first pair (a, b, by numbers, the first by a)");
        reason("nodes a,b;", 1, 0, 1);
        reason(Bench.TWO_PARTS, 1, 0, 2);
        reason("nodes a,b,c,d;way a,c,b;", 1, 0, 3);
        reason("nodes a,b,c,d;way d,c,b;", 1, 0, 1);
        Bench.edge("II: 2 a LINE, of which some NODE is as FAR from both ends: the first LINE, then the first NODE");
        reason(Bench.TRIANGLE, 2, 0, 2);
        reason("nodes a,b,c,d;way d,c,b,d;way a,b;", 2, 0, 0);
        reason("nodes a,b,c,d,e;way a,b,c,d,e,a;", 2, 0, 3);
        reason("nodes a,b,c,d;way a,b,c,d,b;", 2, 1, 3);
        Bench.edge("II: 3 two LINES of one CLASS that are not ALIKE: the first pair");
        reason(Bench.TWOTHREE, 3, 0, 1);
        reason("nodes a,b,c,d,e,f;way e,f;way a,c,b,d,a;way a,e,b;", 3, 1, 2);
        Bench.edge("II: the first of these");
        reason("nodes a,b,c,d;way a,b,c,a;", 1, 0, 3);
        reason("nodes a,b,c,d,e,f;way a,c,b,d,a;way a,e,b;", 1, 0, 5);
        reason("nodes a,b,c,d,e,f,g;way a,c,b,d,a;way a,e,b;way a,f,g,a;", 2, 6, 6);
        Bench.edge("II: 0: it SITS in a cube");
        for (String s : new String[] {"nodes a;", Bench.PATH, Bench.TAIL, Bench.STAR, Bench.HEXAGON, Bench.CUBE}) reason(s, 0, NONE, NONE);
        Bench.edge("20: NONE without a REASON (no NODES)");
        for (int what = -1; what < 4; what++) Bench.none("shows(" + what + ")", new CubeNets().shows(what));
    }

    private static void p9() {
        CubeNets x = Bench.of("nodes a,b,c;way c,a,b;");
        Bench.edge("9: its lower end, its higher one, its CLASS, its PRICE");
        int[][] want = {{0, 2, 0, 1}, {0, 1, 1, 1}};
        for (int l = 0; l < 2; l++)
            for (int k = 0; k < 4; k++) Bench.due("line(" + l + "," + k + ")", x.line(l, k), want[l][k]);
        Bench.edge("9: NONE when there is none such");
        for (int l : new int[] {-1, 2, 59, 60, 61, MIN, MAX})
            for (int k = -1; k < 5; k++) Bench.none("line(" + l + "," + k + ")", x.line(l, k));
        Bench.edge("9: or for others");
        for (int k : new int[] {-1, 4, MIN, MAX}) Bench.none("line(0," + k + ")", x.line(0, k));
        Bench.edge("9: the last of 60");
        CubeNets y = Bench.full(24, 60);
        Bench.due("line(59,0)", y.line(59, 0), 2);
        Bench.due("line(59,1)", y.line(59, 1), 17);
        Bench.none("line(60,0)", y.line(60, 0));
        y.cut(0);
        Bench.none("line(59,0)", y.line(59, 0));
        Bench.edge("9: the CLASS of a LINE where parts are apart, or the net sits in no cube");
        Bench.due("line(1,2)", Bench.of(Bench.TWO_PARTS).line(1, 2), 1);
        Bench.due("line(5,2)", Bench.of(Bench.TWOTHREE).line(5, 2), 0);
        Bench.edge("9: the PRICE, least and greatest");
        x.toll(1, 9);
        Bench.due("line(1,3)", x.line(1, 3), 9);
        x.toll(1, 1);
        Bench.due("line(1,3)", x.line(1, 3), 1);
    }

    private static void p10() {
        Bench.edge("10: How many LINES a NODE has, none to 23");
        CubeNets x = Bench.full(24, 23);
        Bench.due("degree(0)", x.degree(0), 23);
        Bench.due("degree(23)", x.degree(23), 1);
        Bench.due("degree(0)", Bench.full(24, 0).degree(0), 0);
        Bench.due("degree(0)", Bench.path(1).degree(0), 0);
        Bench.edge("10: NONE when there is none such");
        for (int v : new int[] {-1, 24, 25, 32, MIN, MAX}) Bench.none("degree(" + v + ")", x.degree(v));
        Bench.none("degree(4)", Bench.of(Bench.PATH).degree(4));
    }

    private static void p11() {
        CubeNets x = Bench.path(24);
        Bench.edge("11: FAR of two NODES, 0 of one to itself, at the most 23");
        for (int v = 0; v < 24; v++) Bench.due("far(23," + v + ")", x.far(23, v), 23 - v);
        Bench.due("far(7,7)", x.far(7, 7), 0);
        Bench.edge("11: NONE when they are apart");
        CubeNets y = Bench.of(Bench.TWO_PARTS);
        Bench.none("far(0,2)", y.far(0, 2));
        Bench.none("far(3,1)", y.far(3, 1));
        Bench.due("far(2,3)", y.far(2, 3), 1);
        Bench.edge("11: or there are none such");
        noneSuch("far", 24, x::far);
        noneSuch("far", 4, y::far);
    }

    private static void p12() {
        Bench.edge("12: one of it to itself");
        CubeNets x = Bench.of(Bench.TWO_PARTS);
        Bench.due("ways(3,3)", x.ways(3, 3), 1);
        Bench.edge("12: 0 when they are apart");
        Bench.due("ways(0,2)", x.ways(0, 2), 0);
        Bench.due("ways(2,0)", x.ways(2, 0), 0);
        Bench.edge("12: NONE when there are none such");
        noneSuch("ways", 4, x::ways);
        Bench.edge("12: the most that 24 NODES and 60 LINES have");
        CubeNets y = layers(1, 3, 3, 3, 3, 3, 3, 2, 2, 1);
        Bench.due("has(0)", y.has(0), 24);
        Bench.due("has(1)", y.has(1), 60);
        Bench.due("far(0,23)", y.far(0, 23), 9);
        Bench.due("ways(0,23)", y.ways(0, 23), 2916);
        Bench.due("ways(23,0)", y.ways(23, 0), 2916);
        Bench.edge("12: ways that are longer do not count");
        Bench.due("ways(0,1)", Bench.of(Bench.TRIANGLE).ways(0, 1), 1);
        Bench.due("ways(0,2)", Bench.of("nodes a,b,c,d,e;way a,b,c,d,e,a;").ways(0, 2), 1);
    }

    /** Layers of nodes, each node with lines to all of the next layer. */
    private static CubeNets layers(int... sizes) {
        int nodes = 0, lines = 0;
        int[] ahead = new int[200];
        for (int i = 0; i < sizes.length; i++) {
            for (int a = 0; i + 1 < sizes.length && a < sizes[i]; a++)
                for (int b = 0; b < sizes[i + 1]; b++, lines++) {
                    ahead[2 + 2 * lines] = nodes + a;
                    ahead[3 + 2 * lines] = nodes + sizes[i] + b;
                }
            nodes += sizes[i];
        }
        ahead[0] = nodes;
        ahead[1] = lines;
        CubeNets x = new CubeNets();
        Bench.yes("on()", Bench.bytes(x, Bench.picture(java.util.Arrays.copyOf(ahead, 2 + 2 * lines))).on());
        return x;
    }

    private static void p13() {
        Bench.edge("13: NODES BETWEEN two, they, too");
        CubeNets x = Bench.path(24);
        Bench.due("between(0,23)", x.between(0, 23), 0xFFFFFF);
        Bench.due("between(23,0)", x.between(23, 0), 0xFFFFFF);
        Bench.due("between(22,23)", x.between(22, 23), 0xC00000);
        Bench.due("between(23,23)", x.between(23, 23), 0x800000);
        Bench.due("between(0,0)", x.between(0, 0), 1);
        Bench.edge("13: 0 when they are apart");
        CubeNets y = Bench.of(Bench.TWO_PARTS);
        Bench.due("between(1,2)", y.between(1, 2), 0);
        Bench.due("between(2,3): others are apart", y.between(2, 3), 12);
        Bench.edge("13: NONE when there are none such");
        noneSuch("between", 24, x::between);
        noneSuch("between", 4, y::between);
    }

    private static void p14() {
        Bench.edge("14: The most FAR from a NODE to any that is not apart from it");
        Bench.due("reach(0)", Bench.path(24).reach(0), 23);
        Bench.due("reach(12)", Bench.path(24).reach(12), 12);
        Bench.due("reach(0) of one", Bench.path(1).reach(0), 0);
        Bench.due("reach(0) of one apart", Bench.full(3, 0).reach(0), 0);
        Bench.due("reach(3)", Bench.of(Bench.TWO_PARTS).reach(3), 1);
        Bench.edge("14: NONE when there is none such");
        CubeNets x = Bench.path(3);
        for (int v : new int[] {-1, 3, 24, 32, MIN, MAX}) Bench.none("reach(" + v + ")", x.reach(v));
    }

    private static void p15() {
        CubeNets x = Bench.path(24);
        for (int l = 0; l < 23; l++) x.toll(l, 9);
        Bench.edge("15: What the CHEAPEST way costs, at the most 23 times 9");
        Bench.due("price(0,23,0)", x.price(0, 23, 0), 207);
        Bench.due("price(23,0,0)", x.price(23, 0, 0), 207);
        Bench.edge("15: their BAR, at the most 9");
        Bench.due("price(0,23,1)", x.price(0, 23, 1), 9);
        Bench.edge("15: 0 of one to itself");
        for (int what = 0; what < 2; what++) Bench.due("price(5,5," + what + ")", x.price(5, 5, what), 0);
        Bench.edge("15: NONE for others");
        for (int what : new int[] {-1, 2, MIN, MAX}) {
            Bench.none("price(0,1," + what + ")", x.price(0, 1, what));
            Bench.none("price(0,0," + what + ")", x.price(0, 0, what));
        }
        Bench.edge("15: NONE when they are apart");
        CubeNets y = Bench.of(Bench.TWO_PARTS);
        for (int what = 0; what < 2; what++) {
            int w = what;
            Bench.none("price(0,2," + what + ")", y.price(0, 2, what));
            Bench.none("price(3,1," + what + ")", y.price(3, 1, what));
            Bench.edge("15: or there are none such");
            noneSuch("price", 4, (a, b) -> y.price(a, b, w));
        }
        Bench.edge("15: a long way may cost less than a short one, and its BAR be less though it costs more");
        CubeNets z = Bench.of("nodes a,b,c,d;way a,b;way a,c,d,b;");
        z.toll(0, 4);
        Bench.due("price(0,1,0)", z.price(0, 1, 0), 3);
        z.toll(0, 2);
        Bench.due("price(0,1,0)", z.price(0, 1, 0), 2);
        Bench.due("price(0,1,1)", z.price(0, 1, 1), 1);
    }

    private static void p16() {
        CubeNets x = Bench.path(24);
        Bench.edge("16: NODE k (0 and on; 0: the first itself); k NONE: how many NODES");
        Bench.due("road(23,0,-1)", x.road(23, 0, -1), 24);
        for (int k = 0; k < 24; k++) Bench.due("road(23,0," + k + ")", x.road(23, 0, k), 23 - k);
        Bench.due("road(4,4,-1)", x.road(4, 4, -1), 1);
        Bench.due("road(4,4,0)", x.road(4, 4, 0), 4);
        Bench.edge("16: NONE when there is none such (k)");
        Bench.none("road(4,4,1)", x.road(4, 4, 1));
        Bench.none("road(0,1,2)", x.road(0, 1, 2));
        for (int k : new int[] {-2, 24, 25, MIN, MAX}) {
            Bench.none("road(0,23," + k + ")", x.road(0, 23, k));
            Bench.none("road(3,3," + k + ")", x.road(3, 3, k));
        }
        Bench.edge("16: NONE when they are apart");
        CubeNets y = Bench.of(Bench.TWO_PARTS);
        for (int k = -1; k < 2; k++) {
            int w = k;
            Bench.none("road(0,2," + k + ")", y.road(0, 2, k));
            Bench.edge("16: or there are none such");
            noneSuch("road", 4, (a, b) -> y.road(a, b, w));
        }
        Bench.edge("III: of like ones the first, by its NODES compared one by one");
        CubeNets z = Bench.of("nodes a,b,c,d,e,f;way a,c,d,f;way a,b,e,f;way c,e;way b,d;");
        int[] there = {4, 0, 1, 3, 5};
        int[] back = {4, 5, 3, 1, 0};
        for (int k = 0; k < 5; k++) {
            Bench.due("road(0,5," + (k - 1) + ")", z.road(0, 5, k - 1), there[k]);
            Bench.due("road(5,0," + (k - 1) + ")", z.road(5, 0, k - 1), back[k]);
        }
        Bench.edge("III: like ones that are not as long");
        CubeNets u = Bench.of("nodes a,b,c,d,e;way a,c;way a,b,d,c;way a,e,c;");
        u.toll(0, 3);
        u.toll(4, 2);
        Bench.due("price(0,2,0)", u.price(0, 2, 0), 3);
        int[] want = {4, 0, 1, 3, 2, NONE};
        for (int k = 0; k < want.length; k++) Bench.due("road(0,2," + (k - 1) + ")", u.road(0, 2, k - 1), want[k]);
    }

    private static void p17() {
        Bench.edge("17: SPREAD, of no NODES and of one 0, of a path of 24");
        Bench.due("spread()", new CubeNets().spread(), 0);
        Bench.due("spread()", Bench.path(1).spread(), 0);
        Bench.due("spread()", Bench.path(24).spread(), 2300);
        Bench.edge("17: pairs that are apart aside");
        Bench.due("spread()", Bench.full(24, 0).spread(), 0);
        Bench.due("spread()", Bench.of(Bench.TWO_PARTS).spread(), 2);
    }

    private static void p18() {
        CubeNets x = Bench.of(Bench.TAIL);
        Bench.edge("18: a LINE is ALIKE to itself");
        for (int l = 0; l < 5; l++) Bench.due("alike(" + l + "," + l + ")", x.alike(l, l), 1);
        Bench.edge("18: 0 when ends are apart");
        CubeNets y = Bench.of(Bench.TWO_PARTS);
        Bench.due("alike(0,1)", y.alike(0, 1), 0);
        Bench.due("alike(1,0)", y.alike(1, 0), 0);
        Bench.due("alike(1,1)", y.alike(1, 1), 1);
        Bench.edge("18: NONE when there are none such");
        noneSuch("alike", 5, x::alike);
        noneSuch("alike", 60, Bench.full(24, 60)::alike);
        Bench.edge("18: the last of 60");
        CubeNets z = Bench.full(24, 60);
        Bench.due("alike(59,59)", z.alike(59, 59), 1);
        Bench.due("alike(0,22): two sides of a triangle", z.alike(0, 22), 1);
        Bench.due("alike(0,59): all ends are as far", z.alike(0, 59), 0);
    }

    private static void p19() {
        CubeNets x = Bench.of(Bench.TAIL);
        Bench.edge("19: NONE when there is none such");
        for (int kind : new int[] {-1, 3, 23, 24, 60, MIN, MAX})
            for (int what = 0; what < 4; what++) Bench.none("sort(" + kind + "," + what + ")", x.sort(kind, what));
        for (int what = 0; what < 4; what++) Bench.none("sort(0," + what + ") of no LINES", Bench.path(1).sort(0, what));
        Bench.edge("19: or for others");
        for (int what : new int[] {-1, 4, MIN, MAX}) Bench.none("sort(0," + what + ")", x.sort(0, what));
        Bench.edge("19: NONE, if the net SITS in no cube (REASONS 1, 2, 3)");
        for (String s : new String[] {Bench.TWO_PARTS, Bench.TRIANGLE, Bench.TWOTHREE}) {
            CubeNets y = Bench.of(s);
            Bench.due("sort(0,1)", y.sort(0, 1), 0);
            Bench.none("sort(0,2)", y.sort(0, 2));
            Bench.none("sort(0,3)", y.sort(0, 3));
        }
        Bench.due("all lines of a triangle", Bench.of(Bench.TRIANGLE).sort(0, 0), 3);
        Bench.due("one", Bench.of(Bench.TWO_PARTS).sort(1, 0), 1);
        Bench.edge("19: the least of them, the COST, the NODES of side 1: of the last of 23");
        CubeNets z = Bench.path(24);
        Bench.due("sort(22,0)", z.sort(22, 0), 1);
        Bench.due("sort(22,1)", z.sort(22, 1), 22);
        Bench.due("sort(22,2)", z.sort(22, 2), 23);
        Bench.due("sort(22,3)", z.sort(22, 3), 1 << 23);
        Bench.due("sort(0,3)", z.sort(0, 3), 0xFFFFFE);
        Bench.due("sort(11,2)", z.sort(11, 2), 144);
        Bench.none("sort(23,0)", z.sort(23, 0));
    }

    private static void p21() {
        CubeNets x = Bench.path(24);
        Bench.edge("21: bit d for DIRECTION d, of 23");
        for (int v = 0; v < 24; v++) Bench.due("sides(" + v + ")", x.sides(v), Bench.first(v));
        Bench.due("sides(0) of one NODE", Bench.path(1).sides(0), 0);
        Bench.edge("21: NONE when there is none such");
        for (int v : new int[] {-1, 24, 25, MIN, MAX}) Bench.none("sides(" + v + ")", x.sides(v));
        Bench.none("sides(1) of one NODE", Bench.path(1).sides(1));
        Bench.edge("21: NONE when the net SITS in no cube");
        for (String s : new String[] {Bench.TWO_PARTS, Bench.TRIANGLE, Bench.TWOTHREE}) Bench.none("sides(0) of " + s, Bench.of(s).sides(0));
        Bench.edge("II: nearer to the lower end of its least LINE have side 0, others 1");
        CubeNets y = Bench.of("nodes a,b,c,d;way d,c;way b,a;way c,a;");
        int[] want = {0, 2, 4, 5};
        for (int v = 0; v < 4; v++) Bench.due("sides(" + v + ")", y.sides(v), want[v]);
        CubeNets z = Bench.of("nodes a,b,c;way a,c,b;");
        int[] turned = {2, 1, 3};
        for (int v = 0; v < 3; v++) Bench.due("sides(" + v + ")", z.sides(v), turned[v]);
    }

    private static void p22() {
        CubeNets x = Bench.path(24);
        Bench.edge("22: The NODE of these sides");
        for (int v = 0; v < 24; v++) Bench.due("at", x.at(Bench.first(v)), v);
        Bench.due("at(0) of one NODE", Bench.path(1).at(0), 0);
        Bench.edge("22: NONE when there is none");
        for (int s : new int[] {-1, 2, 1 << 22, 1 << 23, Bench.first(24), 1 << 30, MIN, MIN + 1, MAX, ~0 << 23}) Bench.none("at(" + s + ")", x.at(s));
        for (int s : new int[] {-1, 1, 2, MIN, MAX}) Bench.none("at(" + s + ") of one NODE", Bench.path(1).at(s));
        Bench.edge("22: or the net SITS in no cube");
        for (String s : new String[] {Bench.TWO_PARTS, Bench.TRIANGLE, Bench.TWOTHREE}) Bench.none("at(0) of " + s, Bench.of(s).at(0));
    }

    private static void p23() {
        CubeNets x = Bench.of(Bench.TAIL);
        Bench.edge("23: 3: they are beside; 4: they cross");
        Bench.due("cross(0,1)", x.cross(0, 1), 4);
        Bench.due("cross(1,0)", x.cross(1, 0), 4);
        Bench.due("cross(0,2)", x.cross(0, 2), 3);
        Bench.due("cross(2,1)", x.cross(2, 1), 3);
        Bench.edge("23: NONE when they are one");
        for (int d = 0; d < 3; d++) Bench.none("cross", x.cross(d, d));
        Bench.edge("23: there are none such");
        noneSuch("cross", 3, x::cross);
        noneSuch("cross", 23, Bench.path(24)::cross);
        noneSuch("cross", 0, Bench.path(1)::cross);
        Bench.due("the last of 23", Bench.path(24).cross(22, 0), 3);
        Bench.edge("23: or the net SITS in no cube");
        Bench.none("cross(0,1)", Bench.of(Bench.TWO_PARTS).cross(0, 1));
        Bench.none("cross(0,1)", Bench.of("nodes a,b,c,d;way a,b,c,a;way c,d;").cross(0, 1));
        Bench.none("cross(0,1)", Bench.of("nodes a,b,c,d,e,f;way e,f;way a,c,b,d,a;way a,e,b;").cross(0, 1));
    }

    private static void p24() {
        CubeNets x = Bench.path(3);
        Bench.edge("24: HALVES FIT, if together they have all NODES, and share some");
        // a path of three: halves 0: a, 1: b c, 2: a b, 3: c
        int[][] want = {{-1, 0, 0, 0}, {0, -1, 1, 0}, {0, 1, -1, 0}, {0, 0, 0, -1}};
        for (int p = 0; p < 4; p++) for (int q = 0; q < 4; q++) Bench.due("fit(" + p + "," + q + ")", x.fit(p, q), want[p][q]);
        Bench.edge("24: NONE when they are one");
        for (int p = 0; p < 4; p++) Bench.none("fit", x.fit(p, p));
        Bench.edge("24: there are none such");
        noneSuch("fit", 4, x::fit);
        noneSuch("fit", 46, Bench.path(24)::fit);
        noneSuch("fit", 0, Bench.path(1)::fit);
        Bench.edge("24: the last of 46");
        Bench.due("fit(1,44)", Bench.path(24).fit(1, 44), 1);
        Bench.due("fit(45,0)", Bench.path(24).fit(45, 0), 0);
        Bench.edge("24: or the net SITS in no cube");
        for (String s : new String[] {Bench.TWO_PARTS, Bench.TRIANGLE, Bench.TWOTHREE}) Bench.none("fit(0,1) of " + s, Bench.of(s).fit(0, 1));
    }

    private static void p25() {
        CubeNets x = Bench.path(24);
        Bench.edge("25: 0: NODES");
        Bench.due("cubes(0)", x.cubes(0), 24);
        Bench.due("cubes(0) of one NODE", Bench.path(1).cubes(0), 1);
        Bench.edge("25: more DIRECTIONS than there are, more than any net has room for");
        Bench.due("cubes(1)", x.cubes(1), 23);
        for (int k : new int[] {2, 4, 5, 23, 24, 31, 32, 33, 64, MAX}) Bench.due("cubes(" + k + ")", x.cubes(k), 0);
        Bench.due("cubes(1) of one NODE", Bench.path(1).cubes(1), 0);
        Bench.edge("25: NONE when k is below 0");
        for (int k : new int[] {-1, -32, MIN}) Bench.none("cubes(" + k + ")", x.cubes(k));
        Bench.edge("25: or the net SITS in no cube");
        for (String s : new String[] {Bench.TWO_PARTS, Bench.TRIANGLE, Bench.TWOTHREE}) Bench.none("cubes(0) of " + s, Bench.of(s).cubes(0));
        Bench.edge("25: the greatest CUBE there is room for");
        CubeNets y = cube(4);
        int[] four = {16, 32, 24, 8, 1, 0, 0};
        for (int k = 0; k < four.length; k++) Bench.due("cubes(" + k + ")", y.cubes(k), four[k]);
        for (int v = 0; v < 8; v++) y.grow(v);
        Bench.due("has(0)", y.has(0), 24);
        int[] grown = {24, 40, 24, 8, 1, 0, 0};
        for (int k = 0; k < grown.length; k++) Bench.due("cubes(" + k + ")", y.cubes(k), grown[k]);
        Bench.edge("III: all sides in these, like ones in others");
        Bench.due("a hexagon crosses, but has no ring of four", Bench.of(Bench.HEXAGON).cubes(2), 0);
        for (int gone = 0; gone < 8; gone++) {
            CubeNets z = Bench.of(Bench.CUBE);
            z.drop(gone);
            int[] corner = {7, 9, 3, 0};
            for (int k = 0; k < 4; k++) Bench.due("cubes(" + k + ") of a cube less " + gone, z.cubes(k), corner[k]);
        }
    }

    private static CubeNets cube(int directions) {
        CubeNets x = Bench.path(1);
        for (int d = 0; d < directions; d++) x.open(Bench.first(1 << d), Bench.first(1 << d));
        return x;
    }

    private static void p26() {
        Bench.edge("26: one, none CROSS by themselves");
        Bench.due("most(0) of one NODE", Bench.path(1).most(0), 0);
        Bench.due("most(1) of one NODE", Bench.path(1).most(1), 0);
        Bench.due("most(0) of two NODES", Bench.path(2).most(0), 1);
        Bench.due("most(1) of two NODES", Bench.path(2).most(1), 1);
        Bench.edge("26: of like many the least as bits");
        Bench.due("most(0) of a path", Bench.path(24).most(0), 1);
        Bench.due("most(1) of a path", Bench.path(24).most(1), 1);
        // two rings of four that share a node: directions 0, 1 and 2, 3; a leaf ahead moves them by one
        CubeNets x = Bench.of("nodes a,b,c,d,e,f,g;way a,b,c,d,a;way a,e,f,g,a;");
        Bench.due("most(0)", x.most(0), 2);
        Bench.due("most(1)", x.most(1), 3);
        CubeNets y = Bench.of("nodes a,b,c,d,e;way d,e;way a,b,c,d,a;");
        Bench.due("most(0)", y.most(0), 2);
        Bench.due("most(1)", y.most(1), 6);
        // directions 0 and 2 cross, 1 and 2 cross (a ladder): 5 is less than 6
        CubeNets ladder = Bench.of("nodes a,b,c,d,e,f;way a,b,c;way a,d;way b,e;way c,f;way d,e,f;");
        Bench.due("most(0)", ladder.most(0), 2);
        Bench.due("most(1)", ladder.most(1), 5);
        Bench.edge("26: the most there is room for");
        Bench.due("most(0) of a cube of four", cube(4).most(0), 4);
        Bench.due("most(1) of a cube of four", cube(4).most(1), 15);
        String ring = Bench.row(24, ",");
        CubeNets z = Bench.of("nodes " + ring + ";way " + ring + ";way x,a;");
        Bench.due("most(0) of a ring of 24", z.most(0), 12);
        Bench.due("most(1) of a ring of 24", z.most(1), 4095);
        Bench.edge("26: or for others");
        for (int what : new int[] {-1, 2, MIN, MAX}) Bench.none("most(" + what + ")", z.most(what));
        Bench.edge("26: NONE when the net SITS in no cube");
        for (String s : new String[] {Bench.TWO_PARTS, Bench.TRIANGLE, Bench.TWOTHREE})
            for (int what = 0; what < 2; what++) Bench.none("most of " + s, Bench.of(s).most(what));
    }

    private static void p27() {
        Bench.edge("27: The NODE that has all sides unlike those of one");
        Bench.due("of one NODE itself", Bench.path(1).opposite(0), 0);
        Bench.due("of two the other", Bench.path(2).opposite(1), 0);
        CubeNets x = Bench.path(24);
        Bench.due("opposite(0)", x.opposite(0), 23);
        Bench.due("opposite(23)", x.opposite(23), 0);
        Bench.edge("27: NONE when there is none");
        for (int v = 1; v < 23; v++) Bench.none("opposite(" + v + ")", x.opposite(v));
        Bench.edge("27: there is none such");
        for (int v : new int[] {-1, 24, 25, MIN, MAX}) Bench.none("opposite(" + v + ")", x.opposite(v));
        Bench.none("opposite(1) of one NODE", Bench.path(1).opposite(1));
        Bench.edge("27: or the net SITS in no cube");
        for (String s : new String[] {Bench.TWO_PARTS, Bench.TRIANGLE, Bench.TWOTHREE}) Bench.none("opposite(0) of " + s, Bench.of(s).opposite(0));
    }

    private static void p28() {
        Bench.edge("28: NONE without DIRECTIONS");
        for (int what = 0; what < 2; what++) Bench.none("even(" + what + ")", Bench.path(1).even(what));
        Bench.edge("28: of like ones the first");
        Bench.due("even(0)", Bench.path(2).even(0), 0);
        Bench.due("even(1)", Bench.path(2).even(1), 1);
        Bench.due("even(0)", Bench.path(3).even(0), 0);
        Bench.due("even(0)", Bench.path(5).even(0), 1);
        Bench.due("even(1)", Bench.path(5).even(1), 6);
        Bench.due("even(0)", Bench.path(24).even(0), 11);
        Bench.due("even(1)", Bench.path(24).even(1), 144);
        Bench.edge("28: or for others");
        for (int what : new int[] {-1, 2, MIN, MAX}) Bench.none("even(" + what + ")", Bench.path(24).even(what));
        Bench.edge("28: when the net SITS in no cube");
        for (String s : new String[] {Bench.TWO_PARTS, Bench.TRIANGLE, Bench.TWOTHREE})
            for (int what = 0; what < 2; what++) Bench.none("even of " + s, Bench.of(s).even(what));
    }

    private static void p29() {
        Bench.edge("29: FEW of no DIRECTIONS");
        Bench.due("few()", Bench.path(1).few(), 0);
        Bench.edge("29: NONE when it has more than 8 DIRECTIONS");
        Bench.due("8", Bench.path(9).few(), 1);
        Bench.none("9", Bench.path(10).few());
        Bench.due("a star of 8", Bench.full(9, 8).few(), 4);
        Bench.none("a star of 9", Bench.full(10, 9).few());
        Bench.edge("29: 8 DIRECTIONS that all CROSS: no HALVES FIT");
        String ring = Bench.row(16, ",");
        Bench.due("a ring of 16", Bench.of("nodes " + ring + ";way " + ring + ";way p,a;").few(), 8);
        ring = Bench.row(18, ",");
        Bench.none("a ring of 18", Bench.of("nodes " + ring + ";way " + ring + ";way r,a;").few());
        Bench.edge("III: no HALF twice");
        Bench.due("a star of three: three halves fit one another, one pair of them counts", Bench.of(Bench.STAR).few(), 2);
        Bench.due("a star of five", Bench.full(6, 5).few(), 3);
        Bench.due("a star of seven", Bench.full(8, 7).few(), 4);
        Bench.edge("29: FEW asked of one net behind another");
        CubeNets x = Bench.full(9, 8);
        Bench.due("a star of 8", x.few(), 4);
        for (int v = 8; v > 0; v--) {
            x.drop(v);
            Bench.due("a star of " + (v - 1), x.few(), v / 2);
        }
        Bench.edge("29: NONE when the net SITS in no cube");
        for (String s : new String[] {Bench.TWO_PARTS, Bench.TRIANGLE, Bench.TWOTHREE}) Bench.none("few() of " + s, Bench.of(s).few());
    }

    private static void manyFarOff() {
        Bench.edge("9 to 29: nodes, lines, classes, halves far off are none such, in the fullest net");
        CubeNets x = Bench.full(24, 60);
        for (int v : Bench.FAR_OFF) {
            Bench.none("degree", x.degree(v));
            Bench.none("reach", x.reach(v));
            Bench.none("sides", x.sides(v));
            Bench.none("opposite", x.opposite(v));
            Bench.none("sort", x.sort(v, 0));
            if (v != 24 && v != 25) Bench.none("line", x.line(v, 0));
            Bench.none("letter", x.letter(v, 0));
            Bench.none("median", x.median(v, 0, 0));
        }
    }

    public static void main(String[] args) {
        p6();
        reasons();
        p9();
        p10();
        p11();
        p12();
        p13();
        p14();
        p15();
        p16();
        p17();
        p18();
        p19();
        p21();
        p22();
        p23();
        p24();
        p25();
        p26();
        p27();
        p28();
        p29();
        manyFarOff();
        Bench.finish();
    }
}
