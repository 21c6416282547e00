/** Boundary cases of Terms I and of promises 1 to 5, 7, 8: a new object, the tape, the text, names. */
public final class EdgesText {
    private static final int NONE = Bench.NONE;
    private static final String ALL = "nodes " + Bench.row(24, ",");

    private static void faulty(String text, int kind, int place) {
        CubeNets x = Bench.tape(new CubeNets(), text);
        Bench.due("net() of " + text, x.net(), NONE);
        Bench.due("fault(0) of " + text, x.fault(0), kind);
        Bench.due("fault(1) of " + text, x.fault(1), place);
        Bench.due("status(1) of " + text, x.status(1), 1);
        Bench.due("has(0) of " + text, x.has(0), 0);
    }

    private static CubeNets right(String text, int statements) {
        CubeNets x = Bench.tape(new CubeNets(), text);
        Bench.due("net() of " + text, x.net(), statements);
        Bench.due("fault(0) of " + text, x.fault(0), 0);
        Bench.due("fault(1) of " + text, x.fault(1), NONE);
        Bench.due("status(1) of " + text, x.status(1), 0);
        return x;
    }

    private static void p1() {
        Bench.edge("1: No nodes (what is asked of nodes, lines, classes)");
        CubeNets x = new CubeNets();
        for (int i = 0; i < 7; i++) Bench.due("has(" + i + ")", x.has(i), 0);
        Bench.due("has(7)", x.has(7), 1);
        Bench.none("letter", x.letter(0, 0));
        Bench.none("named", x.named());
        for (int i = 0; i < 4; i++) Bench.none("line", x.line(0, i));
        Bench.none("degree", x.degree(0));
        Bench.none("far", x.far(0, 0));
        Bench.none("ways", x.ways(0, 0));
        Bench.none("between", x.between(0, 0));
        Bench.none("reach", x.reach(0));
        for (int i = 0; i < 2; i++) Bench.none("price", x.price(0, 0, i));
        for (int i = -1; i < 1; i++) Bench.none("road", x.road(0, 0, i));
        Bench.due("spread", x.spread(), 0);
        Bench.none("alike", x.alike(0, 0));
        for (int i = 0; i < 4; i++) Bench.none("sort", x.sort(0, i));
        Bench.none("median", x.median(0, 0, 0));
        Bench.due("medians(0)", x.medians(0), 1);
        for (int i = 1; i < 4; i++) Bench.none("medians", x.medians(i));
        Bench.none("octet", x.octet(0));
        Bench.none("fault(1)", x.fault(1));
        p1NoCube();
        p1Acts();
    }

    private static void p1NoCube() {
        Bench.edge("II: without NODES it SITS in none");
        CubeNets x = new CubeNets();
        for (int i = 0; i < 2; i++) {
            Bench.none("shows", x.shows(i));
            Bench.none("most", x.most(i));
            Bench.none("even", x.even(i));
            Bench.none("set", x.set(0, i));
        }
        Bench.none("sides", x.sides(0));
        Bench.none("at", x.at(0));
        Bench.none("cross", x.cross(0, 1));
        Bench.none("fit", x.fit(0, 1));
        Bench.none("cubes", x.cubes(0));
        Bench.none("opposite", x.opposite(0));
        Bench.none("few", x.few());
        Bench.none("hull", x.hull(0));
        Bench.none("gate", x.gate(0, 0));
        for (int i = 0; i < 3; i++) Bench.none("winner", x.winner(i));
        Bench.none("fits", x.fits());
        for (int i = 0; i < 2; i++) Bench.none("tells", x.tells(i));
        for (int i = 0; i < 6; i++) Bench.due("status", x.status(i), 0);
    }

    private static void p1Acts() {
        Bench.edge("1: No nodes (acts)");
        CubeNets x = new CubeNets();
        Bench.refused("vote()", Bench.bytes(x, 0), 1, CubeNets::vote);
        Bench.refused("see()", Bench.bytes(x, 0, 0), 1, CubeNets::see);
        Bench.refused("join(0, 1)", x, 2, y -> y.join(0, 1));
        Bench.refused("cut(0)", x, 2, y -> Bench.as(y.cut(0)));
        Bench.refused("toll(0, 2)", x, 2, y -> Bench.as(y.toll(0, 2)));
        Bench.refused("grow(0)", x, 2, y -> y.grow(0));
        Bench.refused("drop(0)", x, 2, y -> Bench.as(y.drop(0)));
        Bench.refused("press(0)", x, 3, y -> y.press(0));
        Bench.refused("open(0, 0)", x, 3, y -> y.open(0, 0));
        Bench.refused("open(1, 1)", x, 3, y -> y.open(1, 1));
        Bench.refused("chance(1)", x, 3, y -> y.chance(1));
        Bench.refused("undo()", x, 4, y -> Bench.as(y.undo()));
    }

    private static void p2() {
        Bench.edge("2: Twenty bytes come, of each number the highest first");
        CubeNets x = Bench.of("nodes a;");
        x.feed(0x6E6F6465, 0x73206162, 0x63642C7A, 0x3B206161, 0x61616161);
        Bench.yes("end(13)", x.end(13));
        Bench.due("net()", x.net(), 1);
        int[] want = {1, 2, 3, 4};
        for (int k = 0; k < 4; k++) Bench.due("letter", x.letter(0, k), want[k]);
        Bench.due("letter", x.letter(1, 0), 26);
        Bench.edge("2: bytes of numbers below 0");
        x.feed(0x80000000, 0, 0, 0, 0);
        x.end(1);
        Bench.none("128 is no node", x.vote());
        x.feed(0x0000FFFF, -1, 0, 0, 0);
        x.end(2);
        Bench.due("two bytes 0 are nodes", x.vote(), 2);
        x.feed(0x0000FFFF, -1, 0, 0, 0);
        x.end(3);
        Bench.none("255 is no node", x.vote());
        Bench.edge("2: how many there are");
        CubeNets y = new CubeNets();
        for (int i = 1; i <= 40; i++) Bench.due("feed", y.feed(0, 0, 0, 0, 0), 20 * i);
        Bench.edge("2: refused (0), if there would be more than 800");
        Bench.refused("feed at 800", y, 0, z -> z.feed(0, 0, 0, 0, 0));
        Bench.yes("it is 800 still", y.end(800));
        y.end(799);
        Bench.refused("feed at 799", y, 0, z -> z.feed(0, 0, 0, 0, 0));
        Bench.yes("it is 799 still", y.end(799));
        y.end(781);
        Bench.refused("feed at 781", y, 0, z -> z.feed(0, 0, 0, 0, 0));
        y.end(780);
        Bench.taken("feed at 780", y, z -> z.feed(0, 0, 0, 0, 0), 800);
        Bench.edge("2: a refused feed leaves the tape as it is");
        StringBuilder s = new StringBuilder("nodes a,b;");
        while (s.length() < 792) s.append(s.length() % 7 == 0 ? '\n' : ' ');
        CubeNets u = Bench.tape(new CubeNets(), s + "way a,b;");
        Bench.none("feed", u.feed(0, 0, 0, 0, 0));
        Bench.due("net() of 800 bytes", u.net(), 2);
    }

    private static void p3() {
        Bench.edge("3: The tape has its first n bytes alone");
        CubeNets x = Bench.tape(new CubeNets(), "nodes a,b;way a,b;");
        Bench.taken("end(10)", x, y -> Bench.as(y.end(10)), 1);
        Bench.due("net()", x.net(), 1);
        Bench.due("has(1)", x.has(1), 0);
        Bench.edge("3: what was behind is not read");
        for (int n = 5; n < 8; n++) {
            CubeNets w = Bench.tape(new CubeNets(), "nodes a;");
            w.end(n);
            Bench.none("net()", w.net());
            Bench.due("fault(0)", w.fault(0), 1);
            Bench.due("fault(1)", w.fault(1), n);
        }
        CubeNets cut = Bench.tape(new CubeNets(), "nodes ab,a;way ab,a;");
        cut.end(11);
        Bench.due("net()", cut.net(), 1);
        Bench.tape(cut, "ab").end(1);
        Bench.due("named()", cut.named(), 1);
        Bench.bytes(cut, 0, 0, 9).end(2);
        Bench.due("vote()", cut.vote(), 2);
        Bench.bytes(cut, Bench.picture(2, 0)).end(2);
        Bench.no("on()", cut.on());
        Bench.edge("3: bytes come behind those that are left");
        CubeNets behind = Bench.tape(new CubeNets(), "nodes a!!!");
        behind.end(7);
        Bench.due("feed", behind.feed(0x2C623B20, 0x20202020, 0x20202020, 0x20202020, 0x20202020), 27);
        Bench.due("net()", behind.net(), 1);
        Bench.due("has(0)", behind.has(0), 2);
        Bench.edge("3: it has just so many, or n is 0");
        CubeNets u = new CubeNets();
        Bench.taken("end(0)", u, y -> Bench.as(y.end(0)), 1);
        u.feed(0, 0, 0, 0, 0);
        Bench.taken("end(20)", u, y -> Bench.as(y.end(20)), 1);
        Bench.edge("3: refused (0), if it has not so many, or n is below 0");
        for (int n : new int[] {-1, 21, Bench.MIN, Bench.MAX}) Bench.refused("end(" + n + ")", u, 0, y -> Bench.as(y.end(n)));
        Bench.due("it is 20 still", u.feed(0, 0, 0, 0, 0), 40);
        u.end(5);
        Bench.refused("end(6): the others went", u, 0, y -> Bench.as(y.end(6)));
        Bench.taken("end(0)", u, y -> Bench.as(y.end(0)), 1);
        Bench.refused("end(1)", u, 0, y -> Bench.as(y.end(1)));
        Bench.due("feed", u.feed(0, 0, 0, 0, 0), 20);
    }

    private static void rows() {
        Bench.edge("I: nodes NAME { , NAME } (1 to 24)");
        Bench.due("one", right("nodes a;", 1).has(0), 1);
        Bench.due("24", right(ALL + ";", 1).has(0), 24);
        faulty("nodes;", 1, 5);
        faulty("nodes ;", 1, 6);
        faulty("nodes ,a;", 1, 6);
        Bench.edge("I: first, and that alone");
        faulty("way a,b;", 1, 0);
        faulty("nodes a;nodes b;", 1, 8);
        faulty("nodes a,b;way a,b;nodes c;", 1, 18);
        Bench.edge("I: way NAME { , NAME } (2 to 24 NAMES)");
        faulty("nodes a,b;way;", 1, 13);
        faulty("nodes a,b;way ;", 1, 14);
        faulty("nodes a,b;way a;", 1, 15);
        faulty("nodes a,b;way a ;", 1, 16);
        Bench.due("two", right("nodes a,b;way a,b;", 2).has(1), 1);
        Bench.due("24", right(ALL + ";way " + Bench.row(24, ",") + ";", 2).has(1), 23);
        Bench.edge("I: a LINE between each two that follow on one another; numbered as they come");
        CubeNets x = right("nodes a,b,c;way c,b;way a,c;way b,a;", 4);
        int[][] want = {{1, 2}, {0, 2}, {0, 1}};
        for (int l = 0; l < 3; l++)
            for (int k = 0; k < 2; k++) Bench.due("line(" + l + "," + k + ")", x.line(l, k), want[l][k]);
        Bench.edge("I: each has a PRICE, 1 at first");
        for (int l = 0; l < 3; l++) Bench.due("line(" + l + ",3)", x.line(l, 3), 1);
    }

    private static void names() {
        Bench.edge("I: NAMES: 1 to 4 letters");
        right("nodes a,ab,abc,abcd;", 1);
        faulty("nodes abcde;", 1, 10);
        faulty("nodes a,abcdefghij;", 1, 12);
        faulty("nodes abcd e;", 1, 11);
        Bench.edge("I: letters are a to z alone");
        right("nodes a,z,az;", 1);
        for (char c : new char[] {'A', 'Z', '0', '_', '`', '{', '@', '[', (char) 0, (char) 127, (char) 225, (char) 255}) {
            faulty("nodes " + c + ";", 1, 6);
            faulty("nodes a" + c + ";", 1, 7);
        }
        Bench.edge("I: no OWN WORD: nodes, way");
        right("nodes node,ways,w,wa,n,no,nod,ay,odes;", 1);
        faulty("nodes way;", 1, 6);
        faulty("nodes nodes;", 1, 6);
        faulty("nodes a, way", 1, 9);
        faulty("nodes a,b;way way,a;", 1, 14);
        faulty("nodes a,b;way a,nodes;", 1, 16);
        Bench.edge("I: all unlike");
        right("nodes a,aa,aaa,aaaa;", 1);
        faulty("nodes a,aa,aaa,aaaa,aaa;", 3, 20);
    }

    private static void blanks() {
        Bench.edge("I: Blanks (10, 32) are where one likes");
        right("\n nodes \n a \n , \n b \n ; \n way \n a \n , \n b \n ; \n ", 2);
        right("nodes\na;", 1);
        right("nodes a; \n ", 1);
        right("\nnodes a;\n", 1);
        right("nodes a,b;way\na,b;", 2);
        Bench.edge("I: no other byte is a blank");
        for (int c : new int[] {0, 9, 11, 12, 13, 31, 33, 127, 160}) {
            faulty((char) c + "nodes a;", 1, 0);
            faulty("nodes" + (char) c + "a;", 1, 5);
            faulty("nodes a" + (char) c + ";", 1, 7);
            faulty("nodes a;" + (char) c, 1, 8);
        }
        Bench.edge("I: words side by side need one");
        faulty("nodesa;", 1, 0);
        faulty("nodes a,b;waya,b;", 1, 10);
        Bench.edge("I: no blank within a word");
        faulty("no des a;", 1, 0);
        faulty("nodes a b;", 1, 8);
        faulty("nodes a,b;wa y a,b;", 1, 10);
    }

    private static void formFaults() {
        Bench.edge("I: 1: words whole, at their first byte");
        faulty("node a;", 1, 0);
        faulty("xodes a;", 1, 0);
        faulty("nodex a;", 1, 0);
        faulty("nodes a,b;xay a,b;", 1, 10);
        faulty("nodes a,b;wax a,b;", 1, 10);
        faulty(" nodesx a;", 1, 1);
        faulty("x", 1, 0);
        faulty("nod", 1, 0);
        faulty("nodes a; wax a,b;", 1, 9);
        faulty("nodes a;wayx", 1, 8);
        faulty("nodes a;wa", 1, 8);
        faulty("nodes a;a,b;", 1, 8);
        Bench.edge("I: 1: a byte that is no word");
        faulty(";nodes a;", 1, 0);
        faulty(",", 1, 0);
        faulty("nodes a;;", 1, 8);
        faulty("nodes a,;", 1, 8);
        faulty("nodes a,,b;", 1, 8);
        faulty("nodes a,b;way ,a;", 1, 14);
        faulty("nodes a,b;way a;b;", 1, 15);
        Bench.edge("I: 1: where a NAME is asked, an OWN WORD so, a 5th letter at itself");
        faulty("nodes  nodes,a;", 1, 7);
        faulty("nodes nodesa;", 1, 10);
        faulty("nodes wayway;", 1, 10);
        faulty("nodes a,b;way a,abcde;", 1, 20);
        faulty("nodes abcd,b;way b,abcdabcd;", 1, 23);
        Bench.edge("I: 1: at the text's length, if it ends too soon");
        String text = "nodes a,b;way a,b;";
        for (int n = 6; n < text.length(); n++) {
            int at = n == 11 || n == 12 ? 10 : n;
            if (n == 10) continue;
            faulty(text.substring(0, n), 1, at);
            if (n != 5 && n != 11 && n != 12) faulty(text.substring(0, n) + " \n ", 1, n + 3);
        }
        faulty("nodes", 1, 5);
        faulty("nodes ", 1, 6);
        Bench.edge("4: one without a STATEMENT has FAULT 1 at its length");
        faulty("", 1, 0);
        faulty(" ", 1, 1);
        faulty("\n\n \n", 1, 4);
        CubeNets full = new CubeNets();
        for (int i = 0; i < 40; i++) full.feed(0x20202020, 0x20202020, 0x0A0A0A0A, 0x20202020, 0x20202020);
        Bench.none("net() of 800 blanks", full.net());
        Bench.due("fault(0)", full.fault(0), 1);
        Bench.due("fault(1)", full.fault(1), 800);
    }

    private static void nameFaults() {
        Bench.edge("I: 3: a NAME that is there already, at it");
        faulty("nodes a,a;", 3, 8);
        faulty("nodes abcd, b ,  abcd;", 3, 17);
        faulty("nodes a,a", 3, 8);
        faulty("nodes a,a!", 3, 8);
        faulty(ALL.substring(0, ALL.length() - 1) + "a;", 3, 52);
        Bench.edge("I: 3: one that is no NODE, at it");
        faulty("nodes a,b;way c,a;", 3, 14);
        faulty("nodes a,b;way a, c;", 3, 17);
        faulty("nodes a,b;way a,b,ab;", 3, 18);
        faulty("nodes ab,b;way a,b;", 3, 15);
        faulty("nodes a,b;way c", 3, 14);
        Bench.edge("I: 4: a NODE to which there is a LINE already from the one ahead, at it");
        faulty("nodes a,b;way a,b,a;", 4, 18);
        faulty("nodes a,b;way a,b;way a,b;", 4, 24);
        faulty("nodes a,b;way a,b;way b, a;", 4, 25);
        faulty("nodes a,b,c;way a,b,c,a,b;", 4, 24);
        Bench.edge("I: 4: that is that one itself, at it");
        faulty("nodes a,b;way a,a;", 4, 16);
        faulty("nodes a,b;way a,b,b;", 4, 18);
        faulty("nodes a,b;way a,a", 4, 16);
        Bench.edge("I: FAULTS, the first along the text");
        faulty("nodes a,a;way 1;", 3, 8);
        faulty("nodes a,b;way c,abcde;", 3, 14);
        faulty("nodes a,b;way a,a;nodes", 4, 16);
        faulty("nodes a,abcde,a;", 1, 12);
        faulty("nodes a,b;way a,b,a,c;", 4, 18);
    }

    private static void tooMany() {
        int at = ALL.length() + 1;
        Bench.edge("I: 5: a 25th NAME of nodes, at the first byte behind the comma that is no blank, whatever it is");
        for (String s : new String[] {"y", "y;", "a", ";", ",", "way", "nodes", "abcde", "1", "!", "Y", "" + (char) 200, "" + (char) 0}) {
            faulty(ALL + "," + s, 5, at);
            faulty(ALL + " , \n" + s, 5, at + 3);
        }
        Bench.edge("I: 5: a 25th NAME of a way, likewise");
        String way = ALL + ";way " + Bench.row(24, ",");
        for (String s : new String[] {"a", "x", "w", "zz", ";", ",", "way", "abcde", "1"}) {
            faulty(way + "," + s, 5, way.length() + 1);
            faulty(way + ",  " + s, 5, way.length() + 3);
        }
        Bench.edge("I: 5: but 1 at the text's end");
        faulty(ALL + ",", 1, at);
        faulty(ALL + ", \n ", 1, at + 3);
        faulty(way + ",", 1, way.length() + 1);
        faulty(way + ",\n", 1, way.length() + 2);
        Bench.edge("I: 5: behind the 24th NAME what is no comma is 1");
        faulty(ALL, 1, ALL.length());
        faulty(ALL + " y;", 1, at);
        faulty(way + "!", 1, way.length());
        sixty();
    }

    /** All lines from a, then all from b, then so many from c that there are as many as asked. */
    private static String lines(int count) {
        StringBuilder s = new StringBuilder(ALL + ";");
        int lines = 0;
        for (int a = 0; a < 24; a++)
            for (int b = a + 1; b < 24 && lines < count; b++, lines++)
                s.append("way ").append((char) ('a' + a)).append(',').append((char) ('a' + b)).append(';');
        return s.toString();
    }

    private static void sixty() {
        Bench.edge("I: LINES (60 at most)");
        Bench.due("60", right(lines(60), 61).has(1), 60);
        Bench.due("59", right(lines(59), 60).has(1), 59);
        String s = lines(60);
        Bench.edge("I: 5: a NODE by which there would be a 61st LINE, at its first byte");
        faulty(s + "way w, x;", 5, s.length() + 7);
        faulty(s + "way w,x", 5, s.length() + 6);
        faulty(s + "way w,x,", 5, s.length() + 6);
        String less = lines(59);
        faulty(less + "way w,x,v;", 5, less.length() + 8);
        right(less + "way w,x;", 61);
        Bench.edge("I: a 61st LINE that can't be for another cause");
        faulty(s + "way a,b;", 4, s.length() + 6);
        faulty(s + "way w,w;", 4, s.length() + 6);
        faulty(s + "way w,zz;", 3, s.length() + 6);
        faulty(s + "way w,way;", 1, s.length() + 6);
        faulty(s + "way w,abcde;", 1, s.length() + 10);
        faulty(s + "way w;", 1, s.length() + 5);
    }

    private static void p4() {
        Bench.edge("4: how many STATEMENTS");
        right("nodes a;", 1);
        right("nodes a,b;way a,b;", 2);
        Bench.edge("4: refused (1), with a FAULT (all stays)");
        CubeNets x = Bench.rich(Bench.TAIL);
        for (String s : new String[] {"", "nodes a;way", "nodes a,a;", "nodes a,b;way a,b,a;", ALL + ",y;"})
            Bench.refused("net() of " + s, Bench.tape(x, s), 1, CubeNets::net);
        Bench.edge("4: The tape (it goes), with a FAULT too");
        Bench.due("feed", x.feed(0, 0, 0, 0, 0), 20);
        Bench.none("net()", x.net());
        Bench.due("feed", x.feed(0, 0, 0, 0, 0), 20);
        x.end(0);
        Bench.edge("4: Without one nothing is SEEN, no VOTES are there, nothing can be undone");
        Bench.due("net()", Bench.tape(x, "nodes z;").net(), 1);
        int[] want = {1, 0, 0, 0, 0, 0, 0, 1};
        for (int i = 0; i < want.length; i++) Bench.due("has(" + i + ")", x.has(i), want[i]);
        Bench.none("winner(0)", x.winner(0));
        Bench.none("fits()", x.fits());
        Bench.no("undo()", x.undo());
        Bench.due("letter(0,0)", x.letter(0, 0), 26);
        Bench.none("a name that went", Bench.tape(x, "a").named());
        Bench.edge("4: the tape goes without a FAULT");
        Bench.due("feed", x.feed(0, 0, 0, 0, 0), 20);
        p4Seed();
    }

    private static void p4Seed() {
        Bench.edge("4: the seed stays");
        CubeNets x = Bench.of(Bench.TAIL);
        CubeNets y = Bench.of(Bench.TAIL);
        x.seed(2024);
        x.chance(9);
        Bench.tape(x, Bench.TAIL).net();
        y.seed(2024);
        y.chance(9);
        y.undo();
        Bench.tape(y, "nodes").net();
        for (int i = 0; i < 8; i++) {
            Bench.due("chance(2)", x.chance(2), y.chance(2));
            Bench.due("has(1)", x.has(1), y.has(1));
        }
        Bench.edge("4: a new net has prices of 1");
        Bench.tape(x, Bench.PATH).net();
        x.toll(1, 7);
        Bench.tape(x, Bench.PATH).net();
        for (int l = 0; l < 3; l++) Bench.due("line(" + l + ",3)", x.line(l, 3), 1);
    }

    private static void p5() {
        Bench.edge("5: 0 without, and ahead of any; its place NONE without");
        CubeNets x = new CubeNets();
        Bench.due("fault(0)", x.fault(0), 0);
        Bench.none("fault(1)", x.fault(1));
        Bench.edge("5: NONE for another what");
        for (int what : new int[] {-1, 2, 3, Bench.MIN, Bench.MAX}) Bench.none("fault(" + what + ")", x.fault(what));
        Bench.tape(x, "nodes a,a;").net();
        for (int what : new int[] {-1, 2, 3, Bench.MIN, Bench.MAX}) Bench.none("fault(" + what + ")", x.fault(what));
        Bench.edge("5: Of the latest net()");
        Bench.due("fault(0)", x.fault(0), 3);
        Bench.due("fault(1)", x.fault(1), 8);
        Bench.tape(x, "nodes").net();
        Bench.due("fault(0)", x.fault(0), 1);
        Bench.due("fault(1)", x.fault(1), 5);
        Bench.bytes(x, 9).vote();
        Bench.bytes(x, 9).on();
        Bench.tape(x, "abcde").named();
        Bench.due("of no other call", x.fault(0), 1);
        Bench.due("of no other call", x.fault(1), 5);
        Bench.tape(x, "nodes a;").net();
        Bench.due("fault(0)", x.fault(0), 0);
        Bench.none("fault(1)", x.fault(1));
    }

    private static void p7() {
        CubeNets x = Bench.of("nodes zazz,a,zz;way a,zz;");
        Bench.edge("7: Letter k (0 .. 3): 1 .. 26; 0 behind it");
        int[][] want = {{26, 1, 26, 26}, {1, 0, 0, 0}, {26, 26, 0, 0}};
        for (int v = 0; v < 3; v++)
            for (int k = 0; k < 4; k++) Bench.due("letter(" + v + "," + k + ")", x.letter(v, k), want[v][k]);
        Bench.edge("7: NONE when there is none such (k)");
        for (int k : new int[] {-1, 4, 5, 8, 31, 32, Bench.MIN, Bench.MAX}) {
            Bench.none("letter(0," + k + ")", x.letter(0, k));
            Bench.none("letter(1," + k + ")", x.letter(1, k));
        }
        Bench.edge("7: NONE when there is none such (node)");
        for (int v : new int[] {-1, 3, 23, 24, Bench.MIN, Bench.MAX}) Bench.none("letter(" + v + ",0)", x.letter(v, 0));
        Bench.edge("7: 0 of one without a NAME");
        x.grow(0);
        for (int k = 0; k < 4; k++) Bench.due("letter(3," + k + ")", x.letter(3, k), 0);
        Bench.none("letter(3,4)", x.letter(3, 4));
        Bench.none("letter(3,-1)", x.letter(3, -1));
        x.drop(0);
        Bench.due("names go along with their nodes", x.letter(0, 0), 1);
        Bench.due("names go along with their nodes", x.letter(2, 0), 0);
        Bench.none("letter(3,0)", x.letter(3, 0));
        CubeNets y = Bench.of(ALL + ";");
        Bench.due("of 24 the last", y.letter(23, 0), 24);
        Bench.none("letter(24,0)", y.letter(24, 0));
    }

    private static void p8() {
        CubeNets x = Bench.of("nodes ab,a,abcd,b;way a,b;");
        Bench.edge("8: The tape is a NAME: the NODE");
        Bench.due("ab", Bench.tape(x, "ab").named(), 0);
        Bench.due("a", Bench.tape(x, "a").named(), 1);
        Bench.due("abcd", Bench.tape(x, "abcd").named(), 2);
        Bench.due("b", Bench.tape(x, "b").named(), 3);
        Bench.edge("8: NONE when there is none such");
        for (String s : new String[] {"", "abc", "abcde", "abcdabcd", "c", "A", "way", "nodes", "a,b", "a;", "" + (char) 0, "a" + (char) 0, "`"})
            Bench.none(s, Bench.tape(x, s).named());
        Bench.edge("8: it goes, found or not");
        Bench.due("feed", x.feed(0, 0, 0, 0, 0), 20);
        Bench.none("named()", x.named());
        Bench.due("feed", x.feed(0x61000000, 0, 0, 0, 0), 20);
        x.end(1);
        Bench.due("named()", x.named(), 1);
        Bench.due("feed", x.feed(0, 0, 0, 0, 0), 20);
        x.end(0);
        Bench.edge("8: nothing is refused");
        for (int i = 0; i < 6; i++) Bench.due("status(" + i + ")", x.status(i), 0);
        Bench.edge("8: an empty tape is no NAME of one without a NAME");
        x.grow(0);
        Bench.none("named()", x.named());
        Bench.edge("8: a tape of 800 letters");
        for (int i = 0; i < 40; i++) x.feed(0x61616161, 0x61616161, 0x61616161, 0x61616161, 0x61616161);
        Bench.none("named()", x.named());
    }

    public static void main(String[] args) {
        p1();
        p2();
        p3();
        rows();
        names();
        blanks();
        formFaults();
        nameFaults();
        tooMany();
        p4();
        p5();
        p7();
        p8();
        Bench.finish();
    }
}
