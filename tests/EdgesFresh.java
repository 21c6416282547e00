/**
 * What is asked behind an act is asked of the net as it is then, even if all was asked ahead of it: each answer is held
 * against that of a new object with the same net.
 */
public final class EdgesFresh {
    private static final String PRISM =
        "nodes a,b,c,d,e,f,g;way a,b,c,d,a;way d,e,f,c;way f,g;";

    private static String all(CubeNets x) {
        StringBuilder s = new StringBuilder();
        for (int i : new int[] {0, 1, 2, 6, 7}) s.append("has ").append(x.has(i)).append(' ');
        for (int i = 0; i < 4; i++) {
            s.append("medians ").append(x.medians(i)).append(" cubes ").append(x.cubes(i)).append(' ');
        }
        for (int i = 0; i < 2; i++) {
            s.append("shows ").append(x.shows(i)).append(" most ").append(x.most(i)).append(" even ").append(x.even(i)).append(' ');
        }
        s.append("spread ").append(x.spread()).append(" few ").append(x.few()).append(' ');
        for (int v = 0; v < x.has(0); v++) {
            s.append("node ").append(x.degree(v)).append(' ').append(x.reach(v)).append(' ').append(x.sides(v)).append(' ');
            s.append(x.opposite(v)).append(' ').append(x.gate(v, 6)).append(' ').append(x.hull(1 | 1 << v)).append(' ');
            s.append(x.far(0, v)).append(' ').append(x.ways(0, v)).append(' ').append(x.between(v, 1)).append(' ');
            s.append(x.price(v, 1, 0)).append(' ').append(x.price(v, 1, 1)).append(' ').append(x.road(v, 1, 1)).append(' ');
            s.append(x.median(0, 1, v)).append(' ').append(x.set(5 | 1 << v, 0)).append(' ').append(x.set(3 | 1 << v, 1)).append(' ');
        }
        for (int l = 0; l < x.has(1); l++)
            for (int i = 0; i < 4; i++) s.append("line ").append(x.line(l, i)).append(' ');
        for (int k = 0; k < x.has(2); k++) {
            for (int i = 0; i < 4; i++) s.append("sort ").append(x.sort(k, i)).append(' ');
            s.append(x.cross(0, k)).append(' ').append(x.fit(1, 2 * k)).append(' ').append(x.at(1 << k)).append(' ');
        }
        return s.toString();
    }

    /** A new object with the same nodes, lines and prices. */
    private static CubeNets twin(CubeNets x) {
        int[] row = new int[x.image()];
        for (int k = 0; k < row.length; k++) row[k] = x.octet(k);
        CubeNets y = Bench.bytes(new CubeNets(), row);
        Bench.yes("on()", y.on());
        for (int l = 0; l < x.has(1); l++) if (x.line(l, 3) != 1) y.toll(l, x.line(l, 3));
        return y;
    }

    private static void hold(String net, String name, Bench.Call act) {
        Bench.edge(name + " of " + net + ", all asked ahead");
        CubeNets x = Bench.of(net);
        x.toll(0, 4);
        String ahead = all(x);
        Bench.yes("it is done", act.on(x) != Bench.NONE);
        String behind = all(x);
        String due = all(twin(x));
        Bench.due(behind + " where due is " + due, behind.equals(due) ? 1 : 0, 1);
        if (!x.undo()) return;
        Bench.edge("undo() of " + name + " of " + net + ", all asked ahead");
        String back = all(x);
        Bench.due(back + " where due is " + ahead, back.equals(ahead) ? 1 : 0, 1);
    }

    /** Seeds so that one time by the seed is each kind of act. */
    private static void bySeed(String net) {
        for (int seed = 0; seed < 12; seed++) {
            int s = seed;
            hold(net, "chance(1) by seed " + s, y -> {
                y.seed(s);
                return y.chance(1);
            });
            hold(net, "chance(4) by seed " + s, y -> {
                y.seed(s);
                return y.chance(4);
            });
        }
    }

    private static void acts(String net) {
        hold(net, "join(0, 2)", y -> y.join(0, 2));
        hold(net, "cut(1)", y -> Bench.as(y.cut(1)));
        hold(net, "cut(0)", y -> Bench.as(y.cut(0)));
        hold(net, "toll(1, 9)", y -> Bench.as(y.toll(1, 9)));
        hold(net, "grow(1)", y -> y.grow(1));
        hold(net, "drop(0)", y -> Bench.as(y.drop(0)));
        hold(net, "drop(3)", y -> Bench.as(y.drop(3)));
        hold(net, "press(0)", y -> y.press(0));
        hold(net, "open(all, 1)", y -> y.open(Bench.first(y.has(0)), 1));
        hold(net, "open(all, 3)", y -> y.open(Bench.first(y.has(0)), 3));
        hold(net, "net()", y -> Bench.tape(y, Bench.STAR).net());
        hold(net, "net() of one in no cube", y -> Bench.tape(y, Bench.TWOTHREE).net());
        hold(net, "net() of one apart", y -> Bench.tape(y, Bench.TWO_PARTS).net());
        hold(net, "on()", y -> Bench.as(Bench.bytes(y, Bench.picture(6, 5, 0, 1, 0, 2, 0, 3, 3, 4, 4, 5)).on()));
        bySeed(net);
    }

    public static void main(String[] args) {
        for (String net : new String[] {Bench.TAIL, PRISM, Bench.HEXAGON}) acts(net);
        for (String net : new String[] {"nodes a,b,c,d,e;way a,b,c,d,e,a;", Bench.TWO_PARTS + "way b,c;"}) bySeed(net);
        Bench.finish();
    }
}
