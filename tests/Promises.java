import java.nio.charset.StandardCharsets;

/** Each promise by hand: ordinary inputs, edges, wrong inputs. Method pN tests promise N. */
public final class Promises {
    private static final int NONE = -1;
    private static final String TAIL = "nodes a,b,c,d,e;way a,b,c,d,a;way d,e;";
    private static final String TWOTHREE = "nodes a,b,c,d,e;way a,c,b,d,a;way a,e,b;";
    private static final String TRIANGLE = "nodes a,b,c;way a,b,c,a;";
    private static final String PATH = "nodes a,b,c,d;way a,b,c,d;";
    private static final String APART = "nodes a,b,c,d;way b,c;";
    private static final String STAR = "nodes o,a,b,c;way a,o,b;way o,c;";
    private static final String HEXAGON = "nodes a,b,c,d,e,f;way a,b,c,d,e,f,a;";
    private static final String CUBE =
        "nodes a,b,c,d,e,f,g,h;way a,b,d,c,a;way e,f,h,g,e;way a,e;way b,f;way c,g;way d,h;";
    private static int wrong = 0;
    private static int asked = 0;
    private static int promise = 0;

    private static void due(String call, long got, long want) {
        asked++;
        if (got != want) {
            wrong++;
            System.out.println("promise " + promise + ": " + call + " answered " + got + ", due is " + want);
        }
    }

    private static void yes(String call, boolean got) { due(call, got ? 1 : 0, 1); }

    private static void no(String call, boolean got) { due(call, got ? 1 : 0, 0); }

    private static CubeNets feed(CubeNets x, byte[] bytes) {
        for (int i = 0; i < bytes.length; i += 20) {
            int[] w = new int[5];
            for (int k = 0; k < 20; k++) w[k / 4] = w[k / 4] << 8 | (i + k < bytes.length ? bytes[i + k] & 255 : 33);
            x.feed(w[0], w[1], w[2], w[3], w[4]);
        }
        if (!x.end(bytes.length)) throw new IllegalStateException("tape");
        return x;
    }

    private static CubeNets tape(CubeNets x, String text) { return feed(x, text.getBytes(StandardCharsets.ISO_8859_1)); }

    private static CubeNets bytes(CubeNets x, int... row) {
        byte[] b = new byte[row.length];
        for (int i = 0; i < b.length; i++) b[i] = (byte) row[i];
        return feed(x, b);
    }

    private static CubeNets of(String text) {
        CubeNets x = tape(new CubeNets(), text);
        if (x.net() < 1) throw new IllegalStateException(text + " has fault " + x.fault(0) + " at " + x.fault(1));
        return x;
    }

    private static int bits(int... nodes) {
        int b = 0;
        for (int v : nodes) b |= 1 << v;
        return b;
    }

    private static void faulty(String text, int kind, int place) {
        CubeNets x = tape(new CubeNets(), text);
        due("net() of " + text, x.net(), NONE);
        due("fault(0) of " + text, x.fault(0), kind);
        due("fault(1) of " + text, x.fault(1), place);
        due("status(1) of " + text, x.status(1), 1);
        due("has(0) of " + text, x.has(0), 0);
    }

    private static String row(int count, String between) {
        StringBuilder s = new StringBuilder();
        for (int i = 0; i < count; i++) s.append(i == 0 ? "" : between).append((char) ('a' + i));
        return s.toString();
    }

    private static void p1() {
        CubeNets x = new CubeNets();
        for (int i = 0; i < 7; i++) due("has(" + i + ")", x.has(i), 0);
        due("spread()", x.spread(), 0);
        due("far", x.far(0, 0), NONE);
        for (int i = 0; i < 6; i++) due("status(" + i + ")", x.status(i), 0);
    }

    private static void p2() {
        CubeNets x = new CubeNets();
        due("feed", x.feed(0x6E6F6465, 0x73207A3B, 0, 0, 0), 20);
        yes("end(8)", x.end(8));
        due("net()", x.net(), 1);
        due("letter(0,0): the highest byte first", x.letter(0, 0), 26);
        for (int i = 1; i <= 40; i++) due("feed", x.feed(1, 2, 3, 4, 5), 20 * i);
        due("41st feed", x.feed(1, 2, 3, 4, 5), NONE);
        due("status(0)", x.status(0), 1);
        yes("end(781)", x.end(781));
        due("feed of 781", x.feed(0, 0, 0, 0, 0), NONE);
        yes("end(780)", x.end(780));
        due("feed of 780", x.feed(0, 0, 0, 0, 0), 800);
        due("status(0)", x.status(0), 2);
        CubeNets y = of(PATH);
        y.feed(-1, 0, 0, 0, 0);
        y.end(1);
        due("byte 255 is no node", y.vote(), NONE);
    }

    private static void p3() {
        CubeNets x = new CubeNets();
        yes("end(0)", x.end(0));
        no("end(1)", x.end(1));
        no("end(-1)", x.end(-1));
        x.feed(0, 0, 0, 0, 0);
        no("end(21)", x.end(21));
        yes("end(20)", x.end(20));
        yes("end(7)", x.end(7));
        no("end(8)", x.end(8));
        due("feed", x.feed(0, 0, 0, 0, 0), 27);
        due("status(0)", x.status(0), 4);
    }

    private static void p4() {
        due("net()", tape(new CubeNets(), "\n nodes\na , b\n,c ;way a,b ; way\n b,c;\n").net(), 3);
        due("net()", tape(new CubeNets(), "nodes abcd,node,ways,wa;").net(), 1);
        due("24 names", tape(new CubeNets(), "nodes " + row(24, ",") + ";way " + row(24, " , ") + ";").net(), 2);
        faulty("", 1, 0);
        faulty(" \n ", 1, 3);
        faulty(";", 1, 0);
        faulty("nod", 1, 0);
        faulty("nodes", 1, 5);
        faulty("nodesa;", 1, 0);
        faulty("way a,b;", 1, 0);
        faulty("nodes ;", 1, 6);
        faulty("nodes a", 1, 7);
        faulty("nodes a,;", 1, 8);
        faulty("nodes a,  ", 1, 10);
        faulty("nodes A;", 1, 6);
        faulty("nodes a1;", 1, 7);
        faulty("nodes\ta;", 1, 5);
        faulty("nodes a,bcdef;", 1, 12);
        faulty("nodes nodes;", 1, 6);
        faulty("nodes nodesx;", 1, 10);
        faulty("nodes a,way;", 1, 8);
        faulty("nodes a; nodes b;", 1, 9);
        faulty("nodes a;b;", 1, 8);
        faulty("nodes a;;", 1, 8);
        faulty("nodes a,b;way a;", 1, 15);
        faulty("nodes a,b;way a b;", 1, 16);
        faulty("nodes a,b;way a,b", 1, 17);
        faulty("nodes a,b;way a,way;", 1, 16);
        faulty("nodes a,b;waya,b;", 1, 10);
        faulty("nodes a,b, a ;", 3, 11);
        faulty("nodes a,a", 3, 8);
        faulty("nodes a,b;way c,a;", 3, 14);
        faulty("nodes a,b;way a,c;", 3, 16);
        faulty("nodes a,b;way a,abcde;", 1, 20);
        faulty("nodes a,b;way a,a;", 4, 16);
        faulty("nodes a,b;way a,b,a;", 4, 18);
        faulty("nodes a,b,c;way a,b,c;way b , a;", 4, 30);
        String all = "nodes " + row(24, ",");
        faulty(all + ",y;", 5, 54);
        faulty(all + ", ;", 5, 55);
        faulty(all + ", \n", 1, 56);
        faulty(all + ",", 1, 54);
        faulty("nodes a,b,c,d;way a,b,c,d,a,c,a,", 4, 30);
        p4Sixty();
        p4Stays();
    }

    /** Sixty lines fit; the node of one more is fault 5, but what has a line is fault 4. */
    private static void p4Sixty() {
        StringBuilder s = new StringBuilder("nodes " + row(24, ",") + ";");
        int lines = 0;
        for (int a = 0; lines < 60; a++)
            for (int b = a + 1; b < 24 && lines < 60; b++, lines++)
                s.append("way ").append((char) ('a' + a)).append(',').append((char) ('a' + b)).append(';');
        due("60 lines", tape(new CubeNets(), s.toString()).net(), 61);
        faulty(s + "way w, x;", 5, s.length() + 7);
        faulty(s + "way b,a;", 4, s.length() + 6);
        faulty(s + "way w,w;", 4, s.length() + 6);
        faulty(s + "way w,z;", 3, s.length() + 6);
        String ring = row(24, ",");
        String text = "nodes " + ring + ";way " + ring + ",";
        faulty(text + "a;", 5, text.length());
        faulty(text, 1, text.length());
    }

    private static void p4Stays() {
        CubeNets x = of(PATH);
        bytes(x, 1).vote();
        bytes(x, 1, 1).see();
        x.grow(0);
        x.seed(77);
        tape(x, "nodes a,a;").net();
        due("has(0) stays", x.has(0), 5);
        due("has(3) stays", x.has(3), 1);
        due("has(4) stays", x.has(4), 1);
        due("has(5) stays", x.has(5), 1);
        due("the tape goes", x.feed(0, 0, 0, 0, 0), 20);
        x.end(0);
        tape(x, PATH).net();
        due("has(0)", x.has(0), 4);
        due("has(3)", x.has(3), 0);
        due("has(4)", x.has(4), 0);
        due("has(5)", x.has(5), 0);
        CubeNets y = of(PATH);
        y.seed(77);
        for (int i = 0; i < 6; i++) due("the seed stays", x.chance(3), y.chance(3));
        tape(x, PATH).net();
        due("the tape goes", x.feed(0, 0, 0, 0, 0), 20);
    }

    private static void p5() {
        CubeNets x = new CubeNets();
        due("fault(0)", x.fault(0), 0);
        due("fault(1)", x.fault(1), NONE);
        due("fault(2)", x.fault(2), NONE);
        due("fault(-1)", x.fault(-1), NONE);
        tape(x, "nodes a,a;").net();
        due("fault(0)", x.fault(0), 3);
        due("fault(1)", x.fault(1), 8);
        tape(x, "way").named();
        due("fault(0) of the latest net()", x.fault(0), 3);
        tape(x, PATH).net();
        due("fault(0)", x.fault(0), 0);
        due("fault(1)", x.fault(1), NONE);
    }

    private static void p6() {
        CubeNets x = of(TAIL);
        int[] want = {5, 5, 3, 0, 0, 0, 0, 1, NONE};
        for (int i = 0; i < want.length; i++) due("has(" + i + ")", x.has(i), want[i]);
        due("has(-1)", x.has(-1), NONE);
        bytes(x, 0, 0, 4).vote();
        bytes(x, 0, 1, 2, 1).see();
        x.toll(0, 2);
        due("has(3)", x.has(3), 3);
        due("has(4)", x.has(4), 2);
        due("has(5)", x.has(5), 1);
        due("has(7)", x.has(7), 0);
        x.toll(2, 2);
        due("has(7)", x.has(7), 1);
        x.toll(4, 9);
        due("has(7) of a class of one line", x.has(7), 1);
        due("apart", of(APART).has(6), 1);
        due("equally far", of(TRIANGLE).has(6), 2);
        due("not alike", of(TWOTHREE).has(6), 3);
        due("apart comes first", of("nodes a,b,c,d;way a,b,c,a;").has(6), 1);
        due("classes of a net apart", of("nodes a,b,c,d;way a,b;way c,d;").has(2), 2);
        due("no classes", of("nodes a;").has(2), 0);
        CubeNets y = of("nodes a,b,c,d;way a,b;way c,d;");
        y.toll(0, 4);
        due("has(7) apart", y.has(7), 1);
    }

    private static void p7() {
        CubeNets x = of("nodes ab,zyxw;way ab,zyxw;");
        int[][] want = {{1, 2, 0, 0}, {26, 25, 24, 23}};
        for (int v = 0; v < 2; v++) for (int k = 0; k < 4; k++) due("letter(" + v + "," + k + ")", x.letter(v, k), want[v][k]);
        due("letter(0,4)", x.letter(0, 4), NONE);
        due("letter(0,-1)", x.letter(0, -1), NONE);
        due("letter(2,0)", x.letter(2, 0), NONE);
        due("letter(-1,0)", x.letter(-1, 0), NONE);
        x.grow(0);
        due("letter of one without a name", x.letter(2, 0), 0);
        due("letter(2,4)", x.letter(2, 4), NONE);
    }

    private static void p8() {
        CubeNets x = of("nodes ab,a,abcd;way ab,a;");
        due("ab", tape(x, "ab").named(), 0);
        due("a", tape(x, "a").named(), 1);
        due("abcd", tape(x, "abcd").named(), 2);
        due("abcde", tape(x, "abcde").named(), NONE);
        due("b", tape(x, "b").named(), NONE);
        due("way", tape(x, "way").named(), NONE);
        due("two names", tape(x, "a,ab").named(), NONE);
        due("the tape goes", x.feed(0, 0, 0, 0, 0), 20);
        x.end(0);
        x.grow(0);
        due("an empty tape", x.named(), NONE);
        due("nothing is refused", x.status(1), 0);
        x.drop(0);
        due("behind drop(0)", tape(x, "abcd").named(), 1);
        due("a name that went", tape(x, "ab").named(), NONE);
    }

    private static void p9() {
        CubeNets x = of("nodes a,b,c;way c,a,b;");
        int[][] want = {{0, 2, 0, 1}, {0, 1, 1, 1}};
        for (int l = 0; l < 2; l++) for (int k = 0; k < 4; k++) due("line(" + l + "," + k + ")", x.line(l, k), want[l][k]);
        due("line(0,4)", x.line(0, 4), NONE);
        due("line(0,-1)", x.line(0, -1), NONE);
        due("line(2,0)", x.line(2, 0), NONE);
        due("line(-1,0)", x.line(-1, 0), NONE);
        x.toll(1, 7);
        due("line(1,3)", x.line(1, 3), 7);
        CubeNets y = of(HEXAGON);
        for (int l = 0; l < 6; l++) due("class of " + l, y.line(l, 2), l % 3);
    }

    private static void p10() {
        CubeNets x = of(STAR);
        due("degree(0)", x.degree(0), 3);
        due("degree(3)", x.degree(3), 1);
        due("degree(4)", x.degree(4), NONE);
        due("degree(-1)", x.degree(-1), NONE);
        due("degree apart", of(APART).degree(0), 0);
    }

    private static void p11() {
        CubeNets x = of(APART);
        due("far(1,2)", x.far(1, 2), 1);
        due("far(0,1)", x.far(0, 1), NONE);
        due("far(0,0)", x.far(0, 0), 0);
        due("far(0,4)", x.far(0, 4), NONE);
        due("far(-1,0)", x.far(-1, 0), NONE);
        CubeNets y = of(HEXAGON);
        for (int v = 0; v < 6; v++) due("far(0," + v + ")", y.far(0, v), Math.min(v, 6 - v));
        y.toll(0, 9);
        due("far does not ask for prices", y.far(0, 1), 1);
        CubeNets z = of("nodes " + row(24, ",") + ";way " + row(24, ",") + ";");
        due("far(0,23)", z.far(0, 23), 23);
    }

    private static void p12() {
        CubeNets x = of(CUBE);
        due("ways(0,7)", x.ways(0, 7), 6);
        due("ways(0,3)", x.ways(0, 3), 2);
        due("ways(0,0)", x.ways(0, 0), 1);
        due("ways(0,8)", x.ways(0, 8), NONE);
        due("ways(-1,0)", x.ways(-1, 0), NONE);
        due("apart", of(APART).ways(0, 1), 0);
        due("a triangle", of(TRIANGLE).ways(0, 1), 1);
        due("two by three", of(TWOTHREE).ways(0, 1), 3);
    }

    private static void p13() {
        CubeNets x = of(CUBE);
        due("between(0,7)", x.between(0, 7), 255);
        due("between(0,3)", x.between(0, 3), bits(0, 1, 2, 3));
        due("between(3,3)", x.between(3, 3), 8);
        due("between(0,8)", x.between(0, 8), NONE);
        due("between(0,-1)", x.between(0, -1), NONE);
        due("apart", of(APART).between(0, 1), 0);
        due("parts aside", of(APART).between(1, 2), bits(1, 2));
    }

    private static void p14() {
        CubeNets x = of(PATH);
        due("reach(0)", x.reach(0), 3);
        due("reach(1)", x.reach(1), 2);
        due("reach(4)", x.reach(4), NONE);
        due("reach(-1)", x.reach(-1), NONE);
        due("apart", of(APART).reach(1), 1);
        due("alone", of(APART).reach(0), 0);
    }

    private static void p15() {
        CubeNets x = of("nodes a,b,c,d;way a,b,c,d,a;");
        x.toll(0, 2);
        x.toll(3, 9);
        due("price(0,3,0)", x.price(0, 3, 0), 4);
        due("price(0,3,1)", x.price(0, 3, 1), 2);
        due("price(3,0,0)", x.price(3, 0, 0), 4);
        due("price(2,3,1)", x.price(2, 3, 1), 1);
        x.toll(3, 3);
        due("the bar may take another way", x.price(0, 3, 1), 2);
        due("the cheapest way is the line", x.price(0, 3, 0), 3);
        due("price(1,1,0)", x.price(1, 1, 0), 0);
        due("price(1,1,1)", x.price(1, 1, 1), 0);
        due("price(0,1,2)", x.price(0, 1, 2), NONE);
        due("price(0,1,-1)", x.price(0, 1, -1), NONE);
        due("price(0,4,0)", x.price(0, 4, 0), NONE);
        due("apart", of(APART).price(0, 1, 0), NONE);
        due("apart", of(APART).price(0, 1, 1), NONE);
    }

    private static void p16() {
        CubeNets x = of("nodes a,b,c,d,e;way a,c,e;way a,b,d,e;");
        int[] want = {3, 0, 2, 4, NONE};
        for (int k = 0; k < want.length; k++) due("road(0,4," + (k - 1) + ")", x.road(0, 4, k - 1), want[k]);
        x.toll(0, 2);
        int[] like = {4, 0, 1, 3, 4, NONE};
        for (int k = 0; k < like.length; k++) due("road(0,4," + (k - 1) + ") of like ones", x.road(0, 4, k - 1), like[k]);
        due("and back", x.road(4, 0, 1), 2);
        due("road(3,3,-1)", x.road(3, 3, -1), 1);
        due("road(3,3,0)", x.road(3, 3, 0), 3);
        due("road(3,3,1)", x.road(3, 3, 1), NONE);
        due("road(0,4,-2)", x.road(0, 4, -2), NONE);
        due("road(0,4,1000)", x.road(0, 4, 1000), NONE);
        due("road(0,5,0)", x.road(0, 5, 0), NONE);
        due("apart", of(APART).road(0, 1, 0), NONE);
        due("apart", of(APART).road(0, 1, -1), NONE);
    }

    private static void p17() {
        due("spread() of a path", of(PATH).spread(), 10);
        due("spread() of a cube", of(CUBE).spread(), 48);
        due("spread() apart", of(APART).spread(), 1);
        due("spread() of one", of("nodes a;").spread(), 0);
    }

    private static void p18() {
        CubeNets x = of(HEXAGON);
        due("alike(0,3)", x.alike(0, 3), 1);
        due("alike(3,0)", x.alike(3, 0), 1);
        due("alike(0,1)", x.alike(0, 1), 0);
        due("alike(2,2)", x.alike(2, 2), 1);
        due("alike(0,6)", x.alike(0, 6), NONE);
        due("alike(-1,0)", x.alike(-1, 0), NONE);
        due("a triangle", of(TRIANGLE).alike(0, 1), 1);
        due("apart", of("nodes a,b,c,d;way a,b;way c,d;").alike(0, 1), 0);
    }

    private static void p19() {
        CubeNets x = of(TAIL);
        int[][] want = {{2, 0, 6, 6}, {2, 1, 6, 28}, {1, 4, 4, 16}};
        for (int k = 0; k < 3; k++) for (int w = 0; w < 4; w++) due("sort(" + k + "," + w + ")", x.sort(k, w), want[k][w]);
        due("sort(3,0)", x.sort(3, 0), NONE);
        due("sort(-1,0)", x.sort(-1, 0), NONE);
        due("sort(0,4)", x.sort(0, 4), NONE);
        due("sort(0,-1)", x.sort(0, -1), NONE);
        CubeNets y = of(TWOTHREE);
        due("sort(0,0)", y.sort(0, 0), 6);
        due("sort(0,1)", y.sort(0, 1), 0);
        due("sort(0,2) of no cube", y.sort(0, 2), NONE);
        due("sort(0,3) of no cube", y.sort(0, 3), NONE);
    }

    private static void p20() {
        CubeNets x = of(APART);
        due("shows(0)", x.shows(0), 0);
        due("shows(1)", x.shows(1), 1);
        due("shows(2)", x.shows(2), NONE);
        due("shows(-1)", x.shows(-1), NONE);
        CubeNets y = of("nodes a,b,c,d;way a,b,c,d,b;");
        due("a line", y.shows(0), 1);
        due("a node", y.shows(1), 3);
        CubeNets z = of(TWOTHREE);
        due("a line", z.shows(0), 0);
        due("another line", z.shows(1), 1);
        due("without a reason", of(PATH).shows(0), NONE);
        due("without nodes", new CubeNets().shows(0), NONE);
        CubeNets u = of("nodes a,b,c,d;way a,b;way c,d;");
        due("apart(0)", u.shows(0), 0);
        due("apart(1)", u.shows(1), 2);
    }

    private static void p21() {
        CubeNets x = of(CUBE);
        int[] want = {0, 1, 2, 3, 4, 5, 6, 7};
        for (int v = 0; v < 8; v++) due("sides(" + v + ")", x.sides(v), want[v]);
        due("sides(8)", x.sides(8), NONE);
        due("sides(-1)", x.sides(-1), NONE);
        due("no cube", of(TRIANGLE).sides(0), NONE);
        CubeNets y = of("nodes a,b,c;way c,a;way a,b;");
        due("the lower end has side 0", y.sides(0), 0);
        due("sides(1)", y.sides(1), 2);
        due("sides(2)", y.sides(2), 1);
        CubeNets z = of("nodes a,b,c;way c,b,a;");
        due("the first node may have side 1", z.sides(0), 0);
        due("sides(2)", z.sides(2), 3);
        CubeNets u = of("nodes a,b,c;way a,c,b;");
        due("sides(0)", u.sides(0), 2);
        due("sides(1)", u.sides(1), 1);
        due("sides(2)", u.sides(2), 3);
    }

    private static void p22() {
        CubeNets x = of(TAIL);
        int[] want = {0, 1, 3, 2, NONE, NONE, 4, NONE, NONE};
        for (int s = 0; s < want.length; s++) due("at(" + s + ")", x.at(s), want[s]);
        due("at(-1)", x.at(-1), NONE);
        due("at high", x.at(1 << 31), NONE);
        due("no cube", of(TRIANGLE).at(0), NONE);
        due("without nodes", new CubeNets().at(0), NONE);
    }

    private static void p23() {
        CubeNets x = of(TAIL);
        due("cross(0,1)", x.cross(0, 1), 4);
        due("cross(2,1)", x.cross(2, 1), 3);
        due("cross(1,1)", x.cross(1, 1), NONE);
        due("cross(0,3)", x.cross(0, 3), NONE);
        due("cross(-1,0)", x.cross(-1, 0), NONE);
        due("no cube", of("nodes a,b,c,d;way a,b,c,a;way c,d;").cross(0, 1), NONE);
    }

    private static void p24() {
        CubeNets x = of(TAIL);
        due("fit(3,4)", x.fit(3, 4), 1);
        due("fit(4,3)", x.fit(4, 3), 1);
        due("fit(0,4)", x.fit(0, 4), 1);
        due("fit(0,2)", x.fit(0, 2), 0);
        due("fit(0,1): they share none", x.fit(0, 1), 0);
        due("fit(0,5)", x.fit(0, 5), 0);
        due("fit(0,0)", x.fit(0, 0), NONE);
        due("fit(0,6)", x.fit(0, 6), NONE);
        due("fit(-1,0)", x.fit(-1, 0), NONE);
        due("no cube", of(TRIANGLE).fit(0, 1), NONE);
    }

    private static void p25() {
        CubeNets x = of(CUBE);
        int[] want = {8, 12, 6, 1, 0, 0};
        for (int k = 0; k < want.length; k++) due("cubes(" + k + ")", x.cubes(k), want[k]);
        due("cubes(-1)", x.cubes(-1), NONE);
        due("cubes(32)", x.cubes(32), 0);
        due("cubes(the greatest)", x.cubes(Integer.MAX_VALUE), 0);
        due("no cube", of(TRIANGLE).cubes(0), NONE);
        due("without nodes", new CubeNets().cubes(0), NONE);
        due("a hexagon", of(HEXAGON).cubes(2), 0);
        CubeNets y = of("nodes a;");
        for (int n = 1; n < 16; n *= 2) y.open((1 << n) - 1, (1 << n) - 1);
        int[] four = {16, 32, 24, 8, 1, 0};
        for (int k = 0; k < four.length; k++) due("cubes(" + k + ") of four directions", y.cubes(k), four[k]);
    }

    private static void p26() {
        due("most(0) of a hexagon", of(HEXAGON).most(0), 3);
        due("most(1) of a hexagon", of(HEXAGON).most(1), 7);
        due("most(0) of a path", of(PATH).most(0), 1);
        due("most(1) of a path", of(PATH).most(1), 1);
        due("most(0) of one", of("nodes a;").most(0), 0);
        due("most(1) of one", of("nodes a;").most(1), 0);
        CubeNets x = of("nodes a,b,c,d,e,f,g;way a,b;way b,c,d,e,b;way e,f,g,d;");
        due("most(0)", x.most(0), 2);
        due("most(1): the least of like many", x.most(1), 6);
        due("most(2)", x.most(2), NONE);
        due("most(-1)", x.most(-1), NONE);
        due("no cube", of(TRIANGLE).most(0), NONE);
        due("without nodes", new CubeNets().most(1), NONE);
        String ring = row(24, ",");
        CubeNets y = of("nodes " + ring + ";way " + ring + ";way x,a;");
        due("a ring of 24", y.most(0), 12);
        due("a ring of 24", y.most(1), 4095);
        CubeNets z = of("nodes " + ring + ";way " + ring + ";");
        due("a path of 24", z.most(0), 1);
    }

    private static void p27() {
        CubeNets x = of(CUBE);
        for (int v = 0; v < 8; v++) due("opposite(" + v + ")", x.opposite(v), 7 - v);
        due("opposite(8)", x.opposite(8), NONE);
        due("opposite(-1)", x.opposite(-1), NONE);
        due("opposite(0) of a star", of(STAR).opposite(0), NONE);
        due("opposite(0) of a path", of(PATH).opposite(0), 3);
        due("opposite(1) of a path", of(PATH).opposite(1), NONE);
        due("of one", of("nodes a;").opposite(0), 0);
        due("no cube", of(TRIANGLE).opposite(0), NONE);
    }

    private static void p28() {
        CubeNets x = of(PATH);
        due("even(0)", x.even(0), 1);
        due("even(1)", x.even(1), 4);
        due("even(2)", x.even(2), NONE);
        due("even(-1)", x.even(-1), NONE);
        due("of like ones the first", of(STAR).even(0), 0);
        due("of like ones the first", of(STAR).even(1), 3);
        due("without directions", of("nodes a;").even(0), NONE);
        due("without directions", of("nodes a;").even(1), NONE);
        due("no cube", of(TWOTHREE).even(0), NONE);
    }

    private static void p29() {
        due("a path", of(PATH).few(), 1);
        due("a star of three", of(STAR).few(), 2);
        due("a cube", of(CUBE).few(), 3);
        due("a hexagon", of(HEXAGON).few(), 3);
        due("one", of("nodes a;").few(), 0);
        due("no cube", of(TRIANGLE).few(), NONE);
        due("without nodes", new CubeNets().few(), NONE);
        CubeNets star = of("nodes a;");
        for (int i = 1; i <= 8; i++) {
            star.grow(0);
            due("a star of " + i, star.few(), (i + 1) / 2);
        }
        star.grow(0);
        due("9 directions", star.few(), NONE);
        CubeNets path = of("nodes a;");
        for (int i = 0; i < 8; i++) {
            path.grow(i);
            due("a path of " + (i + 1), path.few(), 1);
        }
        path.grow(8);
        due("9 directions", path.few(), NONE);
    }

    private static void p30() {
        CubeNets x = of(CUBE);
        due("median(1,2,4)", x.median(1, 2, 4), 1);
        due("median(3,5,6)", x.median(3, 5, 6), 1 << 7);
        due("median(1,1,6)", x.median(1, 1, 6), 2);
        due("median(2,2,2)", x.median(2, 2, 2), 4);
        due("median(0,1,8)", x.median(0, 1, 8), NONE);
        due("median(8,0,1)", x.median(8, 0, 1), NONE);
        due("median(0,-1,1)", x.median(0, -1, 1), NONE);
        due("apart", of(APART).median(1, 2, 0), 0);
        due("apart", of(APART).median(1, 1, 0), 0);
        due("none", of(HEXAGON).median(0, 2, 4), 0);
        due("two", of(TWOTHREE).median(2, 3, 4), 3);
    }

    private static void p31() {
        CubeNets x = of(CUBE);
        int[] all = {1, NONE, NONE, NONE, NONE};
        for (int w = 0; w < all.length; w++) due("medians(" + w + ") of a cube", x.medians(w), all[w]);
        int[] hexagon = {0, 0, 2, 4, NONE};
        for (int w = 0; w < hexagon.length; w++) due("medians(" + w + ") of a hexagon", of(HEXAGON).medians(w), hexagon[w]);
        int[] apart = {0, 0, 1, 2, NONE};
        for (int w = 0; w < apart.length; w++) due("medians(" + w + ") apart", of(APART).medians(w), apart[w]);
        due("medians(-1)", x.medians(-1), NONE);
        due("two apart", of("nodes a,b;").medians(0), 1);
        due("a triangle", of(TRIANGLE).medians(0), 0);
    }

    private static void p32() {
        CubeNets x = of(PATH);
        due("vote()", bytes(x, 3, 3, 0).vote(), 3);
        due("has(3)", x.has(3), 3);
        due("15", bytes(x, 0, 1, 2, 3, 0, 1, 2, 3, 0, 1, 2, 3, 0, 1, 2).vote(), 15);
        due("16", bytes(x, 0, 1, 2, 3, 0, 1, 2, 3, 0, 1, 2, 3, 0, 1, 2, 3).vote(), NONE);
        due("an empty tape", x.vote(), NONE);
        due("no node", bytes(x, 0, 4).vote(), NONE);
        due("byte 255", bytes(x, 255).vote(), NONE);
        due("has(3) stays", x.has(3), 15);
        due("status(1)", x.status(1), 4);
        due("the tape goes", x.feed(0, 0, 0, 0, 0), 20);
        x.end(1);
        due("vote()", x.vote(), 1);
        due("the tape goes", x.feed(0, 0, 0, 0, 0), 20);
    }

    private static void p33() {
        CubeNets x = of(CUBE);
        due("without votes", x.winner(0), NONE);
        bytes(x, 1, 2, 4).vote();
        due("winner(0)", x.winner(0), 0);
        due("winner(1)", x.winner(1), 3);
        due("winner(2)", x.winner(2), 0);
        due("winner(3)", x.winner(3), NONE);
        due("winner(-1)", x.winner(-1), NONE);
        bytes(x, 7, 7, 7, 0).vote();
        due("winner(0)", x.winner(0), 7);
        due("winner(1)", x.winner(1), 3);
        due("winner(2)", x.winner(2), 7);
        bytes(x, 7, 6).vote();
        due("of like ones the first", x.winner(0), 6);
        due("of like many side 0", x.winner(2), 6);
        x.drop(7);
        due("none such by now", x.winner(0), NONE);
        due("none such by now", x.winner(2), NONE);
        x.undo();
        due("back again", x.winner(0), 6);
        CubeNets y = of(HEXAGON);
        bytes(y, 0, 2, 4).vote();
        due("winner(0)", y.winner(0), 0);
        due("winner(1)", y.winner(1), 4);
        due("no such node", y.winner(2), NONE);
        CubeNets z = of(TRIANGLE);
        bytes(z, 1, 2, 2).vote();
        due("winner(0)", z.winner(0), 2);
        due("winner(1)", z.winner(1), 1);
        due("no cube", z.winner(2), NONE);
        CubeNets u = of(APART);
        bytes(u, 1).vote();
        for (int w = 0; w < 3; w++) due("any nodes are apart", u.winner(w), NONE);
    }

    private static void p34() {
        CubeNets x = of(TAIL);
        due("set(5,0)", x.set(5, 0), 0);
        due("set(11,0)", x.set(11, 0), 1);
        due("set(11,1)", x.set(11, 1), 0);
        due("set(15,1)", x.set(15, 1), 1);
        due("set(0,0)", x.set(0, 0), 1);
        due("set(0,1)", x.set(0, 1), 1);
        due("set(31,0)", x.set(31, 0), 1);
        due("set(32,0)", x.set(32, 0), NONE);
        due("set(-1,0)", x.set(-1, 0), NONE);
        due("set(1,2)", x.set(1, 2), NONE);
        due("set(1,-1)", x.set(1, -1), NONE);
        due("hangs together, but too long", of(HEXAGON).set(31, 0), 0);
        due("apart", of(APART).set(2, 0), NONE);
        due("apart", of(APART).set(0, 1), NONE);
        due("without nodes", new CubeNets().set(0, 1), NONE);
    }

    private static void p35() {
        due("hull of a cube", of(CUBE).hull(bits(0, 3)), 15);
        due("hull of three", of(CUBE).hull(bits(1, 2, 4)), 255);
        due("a second round", of("nodes a,b,c,d,e,f;way a,b,c;way a,d,c;way b,e,d;way c,f;").hull(bits(0, 2)), 31);
        due("hull of one", of(CUBE).hull(bits(5)), bits(5));
        due("hull of none", of(CUBE).hull(0), 0);
        due("hull(256)", of(CUBE).hull(256), NONE);
        due("hull(-1)", of(CUBE).hull(-1), NONE);
        due("apart", of(APART).hull(2), NONE);
        due("without nodes", new CubeNets().hull(0), NONE);
    }

    private static void p36() {
        CubeNets x = of(CUBE);
        due("gate(7,15)", x.gate(7, 15), 3);
        due("gate(3,15)", x.gate(3, 15), 3);
        due("gate(7,6)", x.gate(7, bits(1, 2)), NONE);
        due("gate(0,6)", x.gate(0, bits(1, 2)), NONE);
        due("gate(1,6)", x.gate(1, bits(1, 2)), 1);
        due("an empty set", x.gate(0, 0), NONE);
        due("gate(8,1)", x.gate(8, 1), NONE);
        due("gate(-1,1)", x.gate(-1, 1), NONE);
        due("gate(0,256)", x.gate(0, 256), NONE);
        due("gate(0,-1)", x.gate(0, -1), NONE);
        due("apart", of(APART).gate(1, 2), NONE);
        due("a triangle", of(TRIANGLE).gate(0, bits(1, 2)), NONE);
    }

    private static void p37() {
        CubeNets x = of(PATH);
        due("see()", bytes(x, 0, 23, 3, 0).see(), 2);
        due("has(4)", x.has(4), 2);
        due("12 rows", feed(x, new byte[24]).see(), 12);
        due("13 rows", feed(x, new byte[26]).see(), NONE);
        due("an empty tape", x.see(), NONE);
        due("half a row", bytes(x, 0, 1, 2).see(), NONE);
        due("24", bytes(x, 0, 24).see(), NONE);
        due("no node", bytes(x, 4, 0).see(), NONE);
        due("status(1)", x.status(1), 5);
        due("has(4) stays", x.has(4), 12);
        due("the tape goes", x.feed(0, 0, 0, 0, 0), 20);
    }

    private static void p38() {
        CubeNets x = of(CUBE);
        due("nothing seen", x.fits(), NONE);
        bytes(x, 0, 1).see();
        due("fits()", x.fits(), bits(1, 2, 4));
        bytes(x, 0, 1, 3, 1).see();
        due("fits()", x.fits(), bits(1, 2));
        bytes(x, 0, 1, 7, 1).see();
        due("none fits", x.fits(), 0);
        x.drop(7);
        due("none by now", x.fits(), NONE);
        CubeNets y = of(APART);
        bytes(y, 0, 0).see();
        due("apart ones do not fit", y.fits(), 1);
    }

    private static void p39() {
        CubeNets x = of(PATH);
        due("nothing seen", x.tells(0), NONE);
        bytes(x, 1, 1).see();
        due("tells(0)", x.tells(0), 0);
        due("tells(1)", x.tells(1), 1);
        due("tells(2)", x.tells(2), NONE);
        due("tells(-1)", x.tells(-1), NONE);
        CubeNets y = of(STAR);
        bytes(y, 0, 1).see();
        due("tells(0)", y.tells(0), 1);
        due("tells(1)", y.tells(1), 2);
        bytes(y, 0, 2).see();
        due("without fits", y.tells(0), NONE);
        due("without fits", y.tells(1), NONE);
        CubeNets z = of("nodes a,b,c,d,e;way a,b,c;way d,e;");
        bytes(z, 1, 1).see();
        z.cut(1);
        due("fits()", z.fits(), 1);
        z.undo();
        due("fits()", z.fits(), 5);
        due("tells(0)", z.tells(0), 0);
        due("tells(1)", z.tells(1), 1);
        CubeNets u = of("nodes d,a,b,c;way a,b,c;way a,c;");
        bytes(u, 1, 1).see();
        due("fits()", u.fits(), bits(2, 3));
        due("one apart leaves both", u.tells(0), 2);
        due("tells(1)", u.tells(1), 1);
    }

    private static void p40() {
        CubeNets x = of(PATH);
        due("join(3,0)", x.join(3, 0), 3);
        due("line(3,0)", x.line(3, 0), 0);
        due("line(3,1)", x.line(3, 1), 3);
        due("line(3,3)", x.line(3, 3), 1);
        due("has(5)", x.has(5), 1);
        due("there is one", x.join(0, 3), NONE);
        due("they are one", x.join(2, 2), NONE);
        due("none such", x.join(0, 4), NONE);
        due("none such", x.join(-1, 0), NONE);
        due("status(2)", x.status(2), 4);
        due("has(5)", x.has(5), 1);
        CubeNets y = of("nodes " + row(24, ",") + ";");
        int lines = 0;
        for (int a = 0; lines < 60; a++) for (int b = a + 1; b < 24 && lines < 60; b++) due("join", y.join(b, a), lines++);
        due("61st", y.join(22, 23), NONE);
        due("far", y.far(0, 23), 1);
    }

    private static void p41() {
        CubeNets x = of(PATH);
        x.toll(1, 4);
        x.toll(2, 6);
        yes("cut(1)", x.cut(1));
        due("has(1)", x.has(1), 2);
        due("line(1,0)", x.line(1, 0), 2);
        due("line(1,1)", x.line(1, 1), 3);
        due("line(1,3)", x.line(1, 3), 6);
        due("far", x.far(0, 3), NONE);
        no("cut(2)", x.cut(2));
        no("cut(-1)", x.cut(-1));
        due("status(2)", x.status(2), 2);
        due("has(5)", x.has(5), 3);
    }

    private static void p42() {
        CubeNets x = of(PATH);
        no("it is that", x.toll(0, 1));
        yes("toll(0,9)", x.toll(0, 9));
        yes("toll(0,1)", x.toll(0, 1));
        no("toll(0,0)", x.toll(0, 0));
        no("toll(0,10)", x.toll(0, 10));
        no("toll(3,2)", x.toll(3, 2));
        no("toll(-1,2)", x.toll(-1, 2));
        due("status(2)", x.status(2), 5);
        due("has(5)", x.has(5), 2);
    }

    private static void p43() {
        CubeNets x = of(PATH);
        due("grow(1)", x.grow(1), 4);
        due("line(3,0)", x.line(3, 0), 1);
        due("line(3,1)", x.line(3, 1), 4);
        due("line(3,3)", x.line(3, 3), 1);
        due("letter(4,0)", x.letter(4, 0), 0);
        due("grow(5)", x.grow(5), NONE);
        due("grow(-1)", x.grow(-1), NONE);
        for (int i = 5; i < 24; i++) due("grow(0)", x.grow(0), i);
        due("24 nodes", x.grow(0), NONE);
        due("status(2)", x.status(2), 3);
        CubeNets y = of("nodes " + row(23, ",") + ";");
        int lines = 0;
        for (int a = 0; lines < 60; a++) for (int b = a + 1; b < 23 && lines < 60; b++, lines++) y.join(a, b);
        due("60 lines", y.grow(0), NONE);
        due("status(2)", y.status(2), 1);
    }

    private static void p44() {
        CubeNets x = of(TAIL);
        x.toll(3, 5);
        yes("drop(1)", x.drop(1));
        due("has(0)", x.has(0), 4);
        due("has(1)", x.has(1), 3);
        int[][] want = {{1, 2, 1}, {0, 2, 5}, {2, 3, 1}};
        for (int l = 0; l < 3; l++) {
            due("line(" + l + ",0)", x.line(l, 0), want[l][0]);
            due("line(" + l + ",1)", x.line(l, 1), want[l][1]);
            due("line(" + l + ",3)", x.line(l, 3), want[l][2]);
        }
        due("letter(1,0)", x.letter(1, 0), 3);
        due("letter(3,0)", x.letter(3, 0), 5);
        no("drop(4)", x.drop(4));
        no("drop(-1)", x.drop(-1));
        for (int i = 0; i < 3; i++) yes("drop(0)", x.drop(0));
        no("no other one", x.drop(0));
        due("status(2)", x.status(2), 3);
        due("letter(0,0)", x.letter(0, 0), 5);
    }

    private static void p45() {
        CubeNets x = of(TAIL);
        x.toll(1, 3);
        x.toll(3, 4);
        due("press(0)", x.press(0), 3);
        due("has(1)", x.has(1), 2);
        due("line(0,0)", x.line(0, 0), 0);
        due("line(0,1)", x.line(0, 1), 1);
        due("of two the first stays", x.line(0, 3), 3);
        due("line(1,0)", x.line(1, 0), 1);
        due("line(1,1)", x.line(1, 1), 2);
        due("letter(0,0)", x.letter(0, 0), 1);
        due("letter(1,0)", x.letter(1, 0), 3);
        due("letter(2,0)", x.letter(2, 0), 5);
        due("press(2)", x.press(2), NONE);
        due("press(-1)", x.press(-1), NONE);
        due("status(3)", x.status(3), 2);
        due("has(5)", x.has(5), 3);
        due("a net in no cube", of(TWOTHREE).press(0), 1);
        due("apart", of("nodes a,b,c,d;way a,b;way c,d;").press(1), 3);
        due("no lines", of("nodes a,b;").press(0), NONE);
        due("without nodes", new CubeNets().press(0), NONE);
    }

    private static void p46() {
        CubeNets x = of(PATH);
        x.toll(0, 2);
        x.toll(1, 3);
        x.toll(2, 4);
        due("open", x.open(bits(0, 1, 2), bits(1, 2, 3)), 6);
        due("has(1)", x.has(1), 6);
        int[][] want = {{0, 1, 2}, {1, 2, 3}, {3, 5, 4}, {4, 5, 3}, {1, 4, 1}, {2, 5, 1}};
        for (int l = 0; l < want.length; l++) {
            due("line(" + l + ",0)", x.line(l, 0), want[l][0]);
            due("line(" + l + ",1)", x.line(l, 1), want[l][1]);
            due("line(" + l + ",3)", x.line(l, 3), want[l][2]);
        }
        due("letter(3,0)", x.letter(3, 0), 4);
        due("letter(4,0)", x.letter(4, 0), 0);
        due("it sits", x.has(6), 0);
        CubeNets y = of(PATH);
        due("not all", y.open(3, 6), NONE);
        due("none in both", y.open(3, 12), NONE);
        due("a line from A alone to B alone", y.open(bits(0, 1, 3), bits(2, 3)), NONE);
        due("no nodes", y.open(bits(0, 1, 2, 3, 4), 15), NONE);
        due("no nodes", y.open(-1, 15), NONE);
        due("status(3)", y.status(3), 5);
        due("has(5)", y.has(5), 0);
        due("the end", y.open(15, 8), 5);
        due("a new leaf", y.line(3, 1), 4);
        CubeNets z = of("nodes " + row(13, ",") + ";way " + row(13, ",") + ";");
        due("26 nodes", z.open((1 << 13) - 1, (1 << 13) - 1), NONE);
        due("25 nodes", z.open((1 << 13) - 1, (1 << 12) - 1), NONE);
        due("24 nodes", z.open((1 << 13) - 1, (1 << 11) - 1), 24);
        due("60 lines", doubled(10, 25), 20);
        due("61 lines", doubled(11, 25), NONE);
        due("24 nodes, 60 lines", doubled(12, 24), 24);
        due("without nodes", new CubeNets().open(0, 0), NONE);
    }

    /** Opens a net with all nodes in both sets: it has n + 2 k lines then. */
    private static int doubled(int n, int k) {
        CubeNets x = of("nodes " + row(n, ",") + ";");
        int count = 0;
        for (int a = 0; a < n && count < k; a++) for (int b = a + 1; b < n && count < k; b++, count++) x.join(a, b);
        return x.open((1 << n) - 1, (1 << n) - 1);
    }

    private static void p47() {
        CubeNets x = of("nodes a;");
        x.seed(1);
        // (1103515245 + 12345) / 64 is 17242618, of 4 that is 2: a line from the node to itself can't be
        due("chance(1)", x.chance(1), 1);
        due("has(1)", x.has(1), 0);
        due("one act", x.has(5), 1);
        due("chance(0)", x.chance(0), NONE);
        due("chance(41)", x.chance(41), NONE);
        due("chance(-1)", x.chance(-1), NONE);
        due("status(3)", x.status(3), 3);
        due("without nodes", new CubeNets().chance(1), NONE);
        x.chance(40);
        due("one act", x.has(5), 2);
        CubeNets once = of(TAIL);
        CubeNets often = of(TAIL);
        once.seed(12345);
        often.seed(12345);
        int last = 0;
        for (int i = 0; i < 15; i++) last = often.chance(1);
        due("15 at once are as 15 one by one", once.chance(15), last);
        due("lines", once.has(1), often.has(1));
        due("acts", often.has(5), 15);
        p47Draws();
    }

    /** Seeds found so that the first draw of 4 tells which act comes. */
    private static void p47Draws() {
        boolean[] met = new boolean[4];
        for (int seed = 0; seed < 60; seed++) {
            long s1 = (1103515245L * seed + 12345) % (1L << 31);
            long s2 = (1103515245L * s1 + 12345) % (1L << 31);
            long s3 = (1103515245L * s2 + 12345) % (1L << 31);
            int which = (int) (s1 / 64 % 4);
            met[which] = true;
            CubeNets x = of(TAIL);
            x.seed(seed);
            int left = x.chance(1);
            if (which < 2) {
                due("seed " + seed + ": a node comes", left, 6);
                due("by a line to", x.line(5, 0), s2 / 64 % 5);
            } else if (which == 2) {
                int a = (int) (s2 / 64 % 5), b = (int) (s3 / 64 % 5);
                CubeNets y = of(TAIL);
                int change = a == b ? 0 : y.far(a, b) == 1 ? -1 : 1;
                due("seed " + seed + ": a line", x.has(1), 5 + change);
                due("the two", x.far(a, b) == 1 ? 1 : 0, change == 1 ? 1 : 0);
            } else {
                CubeNets y = of(TAIL);
                due("seed " + seed + ": a class", left, y.press((int) (s2 / 64 % 3)));
                due("lines", x.has(1), y.has(1));
            }
        }
        for (int i = 0; i < 4; i++) yes("draw " + i + " was met", met[i]);
    }

    private static void p48() {
        CubeNets x = of(TAIL);
        no("nothing to undo", x.undo());
        due("status(4)", x.status(4), 1);
        bytes(x, 4).vote();
        bytes(x, 4, 1).see();
        x.toll(0, 7);
        x.drop(0);
        x.grow(0);
        x.press(0);
        x.chance(40);
        for (int i = 0; i < 5; i++) yes("undo()", x.undo());
        no("undo()", x.undo());
        due("has(0)", x.has(0), 5);
        due("has(1)", x.has(1), 5);
        due("line(0,3)", x.line(0, 3), 1);
        due("letter(0,0)", x.letter(0, 0), 1);
        due("has(2)", x.has(2), 3);
        due("votes stay", x.has(3), 1);
        due("what is seen stays", x.has(4), 1);
        for (int i = 0; i < 25; i++) x.toll(0, 2 + i % 2);
        due("the last 20", x.has(5), 20);
        for (int i = 0; i < 20; i++) {
            yes("undo()", x.undo());
            due("line(0,3)", x.line(0, 3), 2 + (23 - i + 2) % 2);
        }
        no("undo()", x.undo());
        due("status(4)", x.status(4), 3);
        CubeNets a = of(TAIL);
        CubeNets b = of(TAIL);
        a.chance(7);
        a.undo();
        b.chance(7);
        due("the seed stays", a.open(31, 31), 10);
        a.undo();
        b.undo();
        for (int i = 0; i < 5; i++) due("the seed stays", a.chance(4), b.chance(4));
    }

    private static void p49() {
        CubeNets x = of(TAIL);
        CubeNets y = of(TAIL);
        yes("seed(1)", x.seed(1));
        for (int i = 0; i < 5; i++) due("it is 1 at first", y.chance(5), x.chance(5));
        yes("seed(0)", x.seed(0));
        yes("the greatest", x.seed(Integer.MAX_VALUE));
        no("seed(-1)", x.seed(-1));
        no("the least", x.seed(Integer.MIN_VALUE));
        due("status(5)", x.status(5), 2);
    }

    private static void p50() {
        CubeNets x = of("nodes a,b,c;way c,a;way c,b;");
        due("image()", x.image(), 7);
        int[] want = {3, 2, 0, 2, 1, 2};
        int c = 167;
        for (int k = 0; k < want.length; k++) {
            due("octet(" + k + ")", x.octet(k), want[k]);
            c = (3 * c + want[k]) % 251;
        }
        due("the last byte", x.octet(6), c);
        due("image() of no nodes", new CubeNets().image(), 3);
    }

    private static void p51() {
        CubeNets x = of("nodes a,b;way a,b;");
        due("ahead of any", x.octet(0), NONE);
        x.image();
        due("octet(5)", x.octet(5), NONE);
        due("octet(-1)", x.octet(-1), NONE);
        x.grow(0);
        due("of the latest image()", x.octet(0), 2);
        x.image();
        due("octet(0)", x.octet(0), 3);
        tape(x, "nodes a;").net();
        due("it stays behind net()", x.octet(0), 3);
        x.image();
        due("a shorter one", x.octet(3), NONE);
    }

    private static int[] picture(int... ahead) {
        int c = 167;
        int[] row = new int[ahead.length + 1];
        for (int i = 0; i < ahead.length; i++) {
            row[i] = ahead[i];
            c = (3 * c + ahead[i]) % 251;
        }
        row[ahead.length] = c;
        return row;
    }

    private static void p52() {
        CubeNets x = of(TAIL);
        x.toll(0, 5);
        bytes(x, 1).vote();
        bytes(x, 1, 0).see();
        int[][] bad = {{}, {0}, picture(), picture(1), picture(0, 0), picture(25, 0), picture(2, 1, 0), picture(2, 1, 1, 0),
            picture(2, 1, 0, 0), picture(2, 1, 0, 2), picture(3, 2, 0, 1, 0, 1), picture(2, 0, 0, 1), picture(2, 1),
            picture(2, 1, 0, 1, 0), picture(3, 1, 0, 255), {2, 1, 0, 1, 0}};
        for (int i = 0; i < bad.length; i++) {
            no("image " + i, bytes(x, bad[i]).on());
            due("status(5)", x.status(5), i + 1);
            due("the tape goes", x.feed(0, 0, 0, 0, 0), 20);
            x.end(0);
        }
        due("all stays", x.has(0), 5);
        due("line(0,3) stays", x.line(0, 3), 5);
        due("has(5) stays", x.has(5), 1);
        yes("an image", bytes(x, picture(4, 3, 0, 3, 1, 3, 2, 3)).on());
        due("has(0)", x.has(0), 4);
        due("has(1)", x.has(1), 3);
        due("has(5)", x.has(5), 0);
        due("votes stay", x.has(3), 1);
        due("what is seen stays", x.has(4), 1);
        due("letter(0,0)", x.letter(0, 0), 0);
        for (int l = 0; l < 3; l++) {
            due("low", x.line(l, 0), l);
            due("high", x.line(l, 1), 3);
            due("price", x.line(l, 3), 1);
        }
        yes("24 nodes", bytes(x, picture(24, 0)).on());
        due("has(0)", x.has(0), 24);
        p52Sixty(x);
    }

    private static void p52Sixty(CubeNets x) {
        for (int lines = 60; lines < 62; lines++) {
            int[] row = new int[2 + 2 * lines];
            row[0] = 24;
            row[1] = lines;
            int at = 2;
            for (int a = 0; a < 24; a++)
                for (int b = a + 1; b < 24 && at < row.length; b++) {
                    row[at++] = a;
                    row[at++] = b;
                }
            due(lines + " lines", bytes(x, picture(row)).on() ? 1 : 0, lines == 60 ? 1 : 0);
            due("has(1)", x.has(1), 60);
        }
        due("image()", x.image(), 123);
    }

    private static void p53() {
        CubeNets x = of(PATH);
        x.end(99);
        x.net();
        x.vote();
        x.see();
        x.join(0, 0);
        x.cut(9);
        x.toll(9, 1);
        x.grow(9);
        x.drop(9);
        x.press(9);
        x.open(0, 0);
        x.chance(0);
        x.undo();
        x.seed(-1);
        x.on();
        x.named();
        x.far(9, 9);
        int[] want = {1, 3, 5, 3, 1, 2, NONE};
        for (int i = 0; i < want.length; i++) due("status(" + i + ")", x.status(i), want[i]);
        due("status(-1)", x.status(-1), NONE);
    }

    private static void first() {
        promise = 1; p1();
        promise = 2; p2();
        promise = 3; p3();
        promise = 4; p4();
        promise = 5; p5();
        promise = 6; p6();
        promise = 7; p7();
        promise = 8; p8();
        promise = 9; p9();
        promise = 10; p10();
        promise = 11; p11();
        promise = 12; p12();
        promise = 13; p13();
        promise = 14; p14();
        promise = 15; p15();
        promise = 16; p16();
        promise = 17; p17();
        promise = 18; p18();
        promise = 19; p19();
        promise = 20; p20();
        promise = 21; p21();
        promise = 22; p22();
        promise = 23; p23();
        promise = 24; p24();
        promise = 25; p25();
        promise = 26; p26();
        promise = 27; p27();
    }

    private static void second() {
        promise = 28; p28();
        promise = 29; p29();
        promise = 30; p30();
        promise = 31; p31();
        promise = 32; p32();
        promise = 33; p33();
        promise = 34; p34();
        promise = 35; p35();
        promise = 36; p36();
        promise = 37; p37();
        promise = 38; p38();
        promise = 39; p39();
        promise = 40; p40();
        promise = 41; p41();
        promise = 42; p42();
        promise = 43; p43();
        promise = 44; p44();
        promise = 45; p45();
        promise = 46; p46();
        promise = 47; p47();
        promise = 48; p48();
        promise = 49; p49();
        promise = 50; p50();
        promise = 51; p51();
        promise = 52; p52();
        promise = 53; p53();
    }

    public static void main(String[] args) {
        first();
        second();
        System.out.println(asked + " answers asked, " + wrong + " not as due");
        if (wrong != 0) System.exit(1);
    }
}
