/** Boundary cases of Terms III and of promises 30 to 39: medians, votes, sets, what was seen. */
public final class EdgesSets {
    private static final int NONE = Bench.NONE;
    private static final int MIN = Bench.MIN;
    private static final int MAX = Bench.MAX;

    private static void p30() {
        CubeNets x = Bench.of(Bench.TWO_PARTS);
        Bench.edge("30: 0 when some are apart, like ones too");
        Bench.due("median(0,1,2)", x.median(0, 1, 2), 0);
        Bench.due("median(2,0,1)", x.median(2, 0, 1), 0);
        Bench.due("median(1,2,0)", x.median(1, 2, 0), 0);
        Bench.due("median(0,0,2)", x.median(0, 0, 2), 0);
        Bench.due("median(0,2,2)", x.median(0, 2, 2), 0);
        Bench.edge("30: three of which some are one");
        Bench.due("median(3,3,3)", x.median(3, 3, 3), 8);
        Bench.due("median(2,3,3)", x.median(2, 3, 3), 8);
        Bench.due("median(3,2,3)", x.median(3, 2, 3), 8);
        Bench.edge("30: NONE when there are none such, ahead of their being apart");
        for (int v : new int[] {-1, 4, 23, 24, 32, MIN, MAX}) {
            Bench.none("median(" + v + ",0,2)", x.median(v, 0, 2));
            Bench.none("median(0," + v + ",2)", x.median(0, v, 2));
            Bench.none("median(0,2," + v + ")", x.median(0, 2, v));
        }
        Bench.edge("30: none, one, some");
        Bench.due("none", Bench.of(Bench.TRIANGLE).median(0, 1, 2), 0);
        Bench.due("one", Bench.path(24).median(0, 23, 11), 1 << 11);
        Bench.due("some", Bench.of(Bench.TWOTHREE).median(4, 3, 2), 3);
    }

    private static void allHave(String net, CubeNets x) {
        int[] want = {1, NONE, NONE, NONE};
        for (int w = 0; w < 4; w++) Bench.due("medians(" + w + ") of " + net, x.medians(w), want[w]);
    }

    private static void oneLacks(String net, CubeNets x, int a, int b, int c) {
        int[] want = {0, a, b, c};
        for (int w = 0; w < 4; w++) Bench.due("medians(" + w + ") of " + net, x.medians(w), want[w]);
    }

    private static void p31() {
        Bench.edge("31: fewer than three NODES");
        allHave("none", new CubeNets());
        allHave("one", Bench.path(1));
        allHave("two", Bench.path(2));
        allHave("two apart", Bench.full(2, 0));
        Bench.edge("31: NONE (1, 2, 3) when all have");
        allHave("a path of 24", Bench.path(24));
        allHave("a ring of four with a tail", Bench.of(Bench.TAIL));
        allHave("a cube", Bench.of(Bench.CUBE));
        Bench.edge("31: the first three (rising, the first by the least, and so on)");
        oneLacks("three apart", Bench.full(3, 0), 0, 1, 2);
        oneLacks("two parts", Bench.of(Bench.TWO_PARTS), 0, 1, 2);
        oneLacks("a triangle", Bench.of(Bench.TRIANGLE), 0, 1, 2);
        oneLacks("a hexagon", Bench.of(Bench.HEXAGON), 0, 2, 4);
        oneLacks("two by three: more than one", Bench.of(Bench.TWOTHREE), 2, 3, 4);
        Bench.edge("31: the last three of 24");
        CubeNets x = Bench.of("nodes " + Bench.row(24, ",") + ";way " + Bench.row(20, ",") + ";way t,v,u;way t,w,u;way t,x,u;");
        oneLacks("a path that ends in two by three", x, 21, 22, 23);
        oneLacks("a path that ends in a triangle", Bench.of("nodes a,b,c,d;way a,b,c,d,b;"), 0, 2, 3);
        Bench.edge("31: NONE for others");
        for (int w : new int[] {-1, 4, 5, MIN, MAX}) {
            Bench.none("medians(" + w + ")", x.medians(w));
            Bench.none("medians(" + w + ") when all have", Bench.path(4).medians(w));
        }
    }

    private static void p32() {
        CubeNets x = Bench.rich(Bench.TAIL);
        Bench.edge("32: VOTES, 1 to 15 bytes");
        Bench.taken("1", Bench.bytes(x, 4), CubeNets::vote, 1);
        Bench.due("has(3)", x.has(3), 1);
        Bench.taken("15", Bench.bytes(x, 0, 1, 2, 3, 4, 0, 1, 2, 3, 4, 0, 1, 2, 3, 4), CubeNets::vote, 15);
        Bench.due("has(3)", x.has(3), 15);
        Bench.edge("32: refused (1), all staying: no bytes, more than 15");
        Bench.refused("0", Bench.bytes(x), 1, CubeNets::vote);
        Bench.refused("16", Bench.feed(x, new byte[16]), 1, CubeNets::vote);
        Bench.refused("800", Bench.feed(new CubeNets(), new byte[800]), 1, CubeNets::vote);
        CubeNets y = Bench.rich(Bench.TAIL);
        Bench.edge("32: refused (1), all staying: one that is no NODE");
        Bench.refused("5", Bench.bytes(y, 5), 1, CubeNets::vote);
        Bench.refused("0, 255", Bench.bytes(y, 0, 255), 1, CubeNets::vote);
        Bench.refused("the last of 15", Bench.bytes(y, 0, 0, 0, 0, 0, 0, 0, 0, 0, 0, 0, 0, 0, 0, 128), 1, CubeNets::vote);
        Bench.edge("32: The tape (it goes), refused or not");
        Bench.due("feed", y.feed(0, 0, 0, 0, 0), 20);
        Bench.none("vote() of 20", y.vote());
        Bench.due("feed", y.feed(0, 0, 0, 0, 0), 20);
        y.end(15);
        Bench.due("vote()", y.vote(), 15);
        Bench.due("feed", y.feed(0, 0, 0, 0, 0), 20);
        Bench.edge("32: NODE 23 of 24");
        Bench.due("vote()", Bench.bytes(Bench.path(24), 23).vote(), 1);
        Bench.none("vote()", Bench.bytes(Bench.path(24), 24).vote());
    }

    private static void winners(String what, CubeNets x, int winner, int far, int majority) {
        int[] want = {winner, far, majority};
        for (int w = 0; w < 3; w++) Bench.due("winner(" + w + ") of " + what, x.winner(w), want[w]);
    }

    private static void p33() {
        Bench.edge("33: NONE without VOTES");
        winners("no votes", Bench.of(Bench.TAIL), NONE, NONE, NONE);
        Bench.edge("33: of one VOTE itself");
        CubeNets x = Bench.of(Bench.CUBE);
        Bench.bytes(x, 6).vote();
        winners("6", x, 6, 0, 6);
        Bench.edge("III: of like ones the first; of like many 0");
        Bench.bytes(x, 7, 0).vote();
        winners("7, 0", x, 0, 3, 0);
        Bench.bytes(x, 6, 5).vote();
        winners("6, 5", x, 4, 2, 4);
        Bench.edge("33: 15 VOTES, one more of one side");
        Bench.bytes(x, 7, 7, 7, 7, 7, 7, 7, 7, 0, 0, 0, 0, 0, 0, 0).vote();
        winners("eight of 7, seven of 0", x, 7, 21, 7);
        Bench.edge("33: NONE for others");
        for (int w : new int[] {-1, 3, 4, MIN, MAX}) Bench.none("winner(" + w + ")", x.winner(w));
        Bench.edge("33: one of them is none such by now");
        x.drop(0);
        winners("7 behind drop(0)", x, NONE, NONE, NONE);
        x.undo();
        winners("eight of 7, seven of 0", x, 7, 21, 7);
        Bench.bytes(x, 7, 0).vote();
        x.drop(3);
        winners("7, 0: the first went", x, NONE, NONE, NONE);
        x.undo();
        Bench.bytes(x, 0, 7).vote();
        x.drop(3);
        winners("0, 7: the last went", x, NONE, NONE, NONE);
        x.undo();
        Bench.bytes(x, 7, 7, 7, 7, 7, 7, 7, 7, 0, 0, 0, 0, 0, 0, 0).vote();
        Bench.yes("on()", Bench.bytes(x, Bench.picture(7, 6, 0, 1, 1, 2, 2, 3, 3, 4, 4, 5, 5, 6)).on());
        winners("7 behind on() of 7 NODES", x, NONE, NONE, NONE);
        Bench.due("the VOTES are there still", x.has(3), 15);
        x.grow(6);
        winners("7 behind grow()", x, 7, 49, 7);
        p33Apart();
    }

    private static void p33Apart() {
        Bench.edge("33: when any NODES are apart, those of the VOTES or others");
        CubeNets x = Bench.of(Bench.TWO_PARTS);
        Bench.bytes(x, 0, 1).vote();
        winners("two parts", x, NONE, NONE, NONE);
        x.join(1, 2);
        winners("joined", x, 0, 1, 0);
        x.undo();
        winners("apart again", x, NONE, NONE, NONE);
        Bench.edge("33: there is no such NODE (2)");
        CubeNets y = Bench.of(Bench.HEXAGON);
        Bench.bytes(y, 1, 3, 5).vote();
        winners("a hexagon", y, 1, 4, NONE);
        Bench.edge("33: the net SITS in no cube (2)");
        CubeNets z = Bench.of(Bench.TRIANGLE);
        Bench.bytes(z, 2).vote();
        winners("a triangle", z, 2, 0, NONE);
        CubeNets u = Bench.of(Bench.TWOTHREE);
        Bench.bytes(u, 2, 3, 4).vote();
        winners("two by three", u, 0, 3, NONE);
        Bench.edge("33: a net of one NODE");
        CubeNets one = Bench.path(1);
        Bench.feed(one, new byte[15]).vote();
        winners("one NODE", one, 0, 0, 0);
    }

    private static void p34() {
        CubeNets x = Bench.of(Bench.TAIL);
        Bench.edge("34: of an empty set 1");
        for (int w = 0; w < 2; w++) Bench.due("set(0," + w + ")", x.set(0, w), 1);
        Bench.edge("34: of one NODE, of all");
        for (int w = 0; w < 2; w++) {
            Bench.due("set(16," + w + ")", x.set(16, w), 1);
            Bench.due("set(31," + w + ")", x.set(31, w), 1);
        }
        Bench.edge("34: TRUE, but not CLOSED; neither");
        Bench.due("set(a b c, 0)", x.set(7, 0), 1);
        Bench.due("set(a b c, 1)", x.set(7, 1), 0);
        Bench.due("set(a c, 0)", x.set(5, 0), 0);
        Bench.due("set(a c, 1)", x.set(5, 1), 0);
        Bench.due("a way within it is too long", Bench.of(Bench.HEXAGON).set(31, 0), 0);
        Bench.edge("34 to 36: a net of one NODE");
        CubeNets one = Bench.path(1);
        for (int w = 0; w < 2; w++) {
            Bench.due("set(0," + w + ")", one.set(0, w), 1);
            Bench.due("set(1," + w + ")", one.set(1, w), 1);
            Bench.none("set(2," + w + ")", one.set(2, w));
        }
        Bench.due("hull(0)", one.hull(0), 0);
        Bench.due("hull(1)", one.hull(1), 1);
        Bench.none("hull(2)", one.hull(2));
        Bench.due("gate(0,1)", one.gate(0, 1), 0);
        Bench.none("gate(0,0)", one.gate(0, 0));
        Bench.none("gate(1,1)", one.gate(1, 1));
        Bench.edge("34: NONE when there are none such");
        for (int s : new int[] {32, 33, -1, -32, 1 << 24, 1 << 30, MIN, MAX})
            for (int w = 0; w < 2; w++) Bench.none("set(" + s + "," + w + ")", x.set(s, w));
        Bench.edge("34: or for others");
        for (int w : new int[] {-1, 2, MIN, MAX}) Bench.none("set(1," + w + ")", x.set(1, w));
        Bench.none("set(0,2)", x.set(0, 2));
        Bench.edge("34: any NODES are apart, those of the set or others");
        CubeNets y = Bench.of(Bench.TWO_PARTS);
        for (int s : new int[] {0, 1, 3, 5, 15}) for (int w = 0; w < 2; w++) Bench.none("set(" + s + "," + w + ")", y.set(s, w));
        Bench.edge("34: without NODES");
        for (int w = 0; w < 2; w++) Bench.none("set(0," + w + ")", new CubeNets().set(0, w));
        Bench.edge("34: all of 24, and one more");
        CubeNets z = Bench.path(24);
        for (int w = 0; w < 2; w++) {
            Bench.due("all", z.set(0xFFFFFF, w), 1);
            Bench.due("the ends", z.set(0x800001, w), 0);
            Bench.none("one more", z.set(0x1FFFFFF, w));
        }
    }

    private static void p35() {
        CubeNets x = Bench.of(Bench.TAIL);
        Bench.edge("III: 0: no NODES, 0");
        Bench.due("hull(0)", x.hull(0), 0);
        Bench.edge("35: of one NODE itself, of all all");
        Bench.due("hull(16)", x.hull(16), 16);
        Bench.due("hull(31)", x.hull(31), 31);
        Bench.edge("35: what comes in brings more in");
        Bench.due("hull", Bench.of("nodes a,b,c,d,e,f;way a,b,c;way a,d,c;way b,e,d;way c,f;").hull(Bench.bits(0, 2)), 31);
        Bench.due("the ends of 24", Bench.path(24).hull(0x800001), 0xFFFFFF);
        Bench.due("two ends of two by three", Bench.of(Bench.TWOTHREE).hull(3), 31);
        Bench.edge("35: NONE when there are none such");
        for (int s : new int[] {32, 33, -1, -32, 1 << 24, 1 << 30, MIN, MAX}) Bench.none("hull(" + s + ")", x.hull(s));
        Bench.none("hull of 25", Bench.path(24).hull(0x1FFFFFF));
        Bench.edge("35: any NODES are apart");
        for (int s : new int[] {0, 1, 3, 15}) Bench.none("hull(" + s + ")", Bench.of(Bench.TWO_PARTS).hull(s));
        Bench.edge("35: or without NODES");
        Bench.none("hull(0)", new CubeNets().hull(0));
    }

    private static void p36() {
        CubeNets x = Bench.of(Bench.TAIL);
        Bench.edge("36: of one of the set itself");
        for (int v = 0; v < 5; v++) {
            Bench.due("gate(" + v + ", all)", x.gate(v, 31), v);
            Bench.due("gate(" + v + ", itself)", x.gate(v, 1 << v), v);
        }
        Bench.edge("36: of a set of one NODE that");
        Bench.due("gate(1, e)", x.gate(1, 16), 4);
        Bench.edge("36: NONE when there is none");
        Bench.none("gate(0, b d)", x.gate(0, Bench.bits(1, 3)));
        Bench.none("gate(0, b c d)", x.gate(0, Bench.bits(1, 2, 3)));
        Bench.none("of a triangle", Bench.of(Bench.TRIANGLE).gate(2, 3));
        Bench.edge("36: there are none such");
        for (int v : new int[] {-1, 5, 23, 24, 32, MIN, MAX}) Bench.none("gate(" + v + ",1)", x.gate(v, 1));
        for (int s : new int[] {32, 33, -1, 1 << 24, MIN, MAX}) Bench.none("gate(0," + s + ")", x.gate(0, s));
        Bench.edge("36: of an empty set");
        for (int v = -1; v < 6; v++) Bench.none("gate(" + v + ",0)", x.gate(v, 0));
        Bench.edge("36: or when any NODES are apart");
        CubeNets y = Bench.of(Bench.TWO_PARTS);
        for (int s = 0; s < 16; s++) Bench.none("gate(0," + s + ")", y.gate(0, s));
        Bench.edge("36: the last of 24");
        Bench.due("gate(0)", Bench.path(24).gate(0, 0xC00000), 22);
        Bench.due("gate(23)", Bench.path(24).gate(23, 0xC00000), 23);
    }

    private static void p37() {
        CubeNets x = Bench.rich(Bench.TAIL);
        Bench.edge("37: 1 to 12 rows of two bytes");
        Bench.taken("1", Bench.bytes(x, 4, 0), CubeNets::see, 1);
        Bench.due("has(4)", x.has(4), 1);
        Bench.taken("12", Bench.feed(x, new byte[24]), CubeNets::see, 12);
        Bench.due("has(4)", x.has(4), 12);
        Bench.refused("0", Bench.bytes(x), 1, CubeNets::see);
        Bench.refused("13", Bench.feed(x, new byte[26]), 1, CubeNets::see);
        CubeNets y = Bench.rich(Bench.TAIL);
        Bench.edge("37: half a row");
        Bench.refused("1 byte", Bench.bytes(y, 0), 1, CubeNets::see);
        Bench.refused("3 bytes", Bench.bytes(y, 0, 0, 0), 1, CubeNets::see);
        Bench.refused("25 bytes", Bench.feed(y, new byte[25]), 1, CubeNets::see);
        Bench.edge("37: a number 0 .. 23");
        CubeNets z = Bench.rich(Bench.TAIL);
        Bench.taken("0", Bench.bytes(z, 0, 0), CubeNets::see, 1);
        Bench.taken("23", Bench.bytes(z, 0, 23), CubeNets::see, 1);
        Bench.taken("23, more rows", Bench.bytes(z, 0, 23, 4, 5, 1, 23), CubeNets::see, 3);
        Bench.refused("24", Bench.bytes(z, 0, 24), 1, CubeNets::see);
        Bench.refused("255", Bench.bytes(z, 0, 0, 0, 255), 1, CubeNets::see);
        Bench.edge("37: a NODE");
        CubeNets u = Bench.rich(Bench.TAIL);
        Bench.refused("5", Bench.bytes(u, 5, 0), 1, CubeNets::see);
        Bench.refused("255", Bench.bytes(u, 4, 0, 255, 0), 1, CubeNets::see);
        Bench.edge("37: The tape (it goes), refused or not");
        Bench.due("feed", u.feed(0, 0, 0, 0, 0), 20);
        Bench.due("see()", u.see(), 10);
        Bench.due("feed", u.feed(-1, 0, 0, 0, 0), 20);
        Bench.none("see()", u.see());
        Bench.due("feed", u.feed(0, 0, 0, 0, 0), 20);
    }

    private static void p38() {
        CubeNets x = Bench.of(Bench.TAIL);
        Bench.edge("38: NONE when nothing is SEEN");
        Bench.none("fits()", x.fits());
        Bench.edge("38: none that FITS is 0");
        Bench.bytes(x, 0, 23).see();
        Bench.due("fits()", x.fits(), 0);
        Bench.bytes(x, 0, 0, 0, 1).see();
        Bench.due("rows that say unlike things", x.fits(), 0);
        Bench.edge("38: number 0: the NODE itself");
        Bench.bytes(x, 4, 0, 4, 0).see();
        Bench.due("fits()", x.fits(), 16);
        Bench.edge("38: the first and the last NODE FIT");
        Bench.bytes(x, 3, 1).see();
        Bench.due("fits()", x.fits(), Bench.bits(0, 2, 4));
        Bench.bytes(x, 4, 0, 4, 0).see();
        Bench.edge("38: NONE of a NODE that is none by now");
        x.drop(2);
        Bench.none("fits()", x.fits());
        for (int w = 0; w < 2; w++) Bench.none("tells(" + w + ")", x.tells(w));
        Bench.due("the rows are there still", x.has(4), 2);
        x.grow(0);
        Bench.due("4 is another NODE by now", x.fits(), 16);
        Bench.edge("38: those apart FIT no number");
        CubeNets y = Bench.of(Bench.TWO_PARTS);
        Bench.bytes(y, 0, 1).see();
        Bench.due("fits()", y.fits(), 2);
        Bench.bytes(y, 0, 0, 2, 1).see();
        Bench.due("fits()", y.fits(), 0);
        Bench.edge("38: 12 rows, FAR of 23");
        CubeNets z = Bench.path(24);
        Bench.bytes(z, 0, 23, 1, 22, 2, 21, 3, 20, 4, 19, 5, 18, 6, 17, 7, 16, 8, 15, 9, 14, 10, 13, 11, 12).see();
        Bench.due("fits()", z.fits(), 1 << 23);
        Bench.bytes(z, 0, 23, 1, 22, 2, 21, 3, 20, 4, 19, 5, 18, 6, 17, 7, 16, 8, 15, 9, 14, 10, 13, 11, 11).see();
        Bench.due("the last row", z.fits(), 0);
    }

    private static void telling(String what, CubeNets x, int node, int left) {
        Bench.due("tells(0) of " + what, x.tells(0), node);
        Bench.due("tells(1) of " + what, x.tells(1), left);
    }

    private static void p39() {
        CubeNets x = Bench.of(Bench.TAIL);
        Bench.edge("39: NONE without FITS");
        telling("nothing SEEN", x, NONE, NONE);
        Bench.bytes(x, 0, 23).see();
        telling("none that FITS", x, NONE, NONE);
        Bench.edge("39: one that FITS: the first NODE tells");
        Bench.bytes(x, 4, 0).see();
        telling("one", x, 0, 1);
        Bench.edge("39: NONE for others");
        for (int w : new int[] {-1, 2, 3, MIN, MAX}) Bench.none("tells(" + w + ")", x.tells(w));
        Bench.edge("III: of like ones the first");
        CubeNets y = Bench.full(24, 23);
        Bench.bytes(y, 0, 1).see();
        telling("a star of 23", y, 1, 22);
        CubeNets last = Bench.of("nodes a,b,c,o;way a,o,b;way o,c;");
        Bench.bytes(last, 3, 1).see();
        telling("a star, the first NODE FITS", last, 0, 2);
        Bench.edge("39: those apart from it count as one more number");
        CubeNets z = Bench.of("nodes a,b,c,d;way b,c,d;");
        Bench.bytes(z, 2, 1).see();
        Bench.due("fits()", z.fits(), Bench.bits(1, 3));
        telling("a apart", z, 1, 1);
        CubeNets u = Bench.of("nodes a,b,c;way b,c;");
        Bench.bytes(u, 1, 1).see();
        telling("one that is apart from a", u, 0, 1);
        Bench.edge("39: the NODE that tells need not FIT");
        CubeNets w = Bench.of("nodes a,b,c,d;way b,a,c;way c,d;");
        Bench.bytes(w, 0, 1).see();
        Bench.due("fits()", w.fits(), Bench.bits(1, 2));
        telling("b FITS", w, 1, 1);
        CubeNets t = Bench.of("nodes a,b,c,d,e,f;way a,b;way a,c;way a,d;way b,e;way c,e;way b,f;");
        Bench.bytes(t, 0, 1).see();
        Bench.due("fits()", t.fits(), Bench.bits(1, 2, 3));
        telling("b, c, d: by b 0, 2, 2; by e 1, 1, 3; by f 1, 3, 3", t, 1, 2);
    }

    public static void main(String[] args) {
        p30();
        p31();
        p32();
        p33();
        p34();
        p35();
        p36();
        p37();
        p38();
        p39();
        Bench.finish();
    }
}
