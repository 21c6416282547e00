import java.util.Random;

/**
 * Laws of networks that sit in cubes, which the document doesn't tell but which follow from its words: nets by fixed
 * seeds are held against them. They ask neither Model nor answers that were reckoned by hand. Some objects are asked
 * more than 512 times, behind which the document promises nothing: this class answers on as ahead.
 */
public final class Laws {
    private static final int NONE = Bench.NONE;
    private static Random r;

    // ---- nets

    private static int[] picture(CubeNets x) {
        int[] row = new int[x.image()];
        for (int k = 0; k < row.length; k++) row[k] = x.octet(k);
        return row;
    }

    private static CubeNets twin(CubeNets x) {
        CubeNets y = Bench.bytes(new CubeNets(), picture(x));
        if (!y.on()) throw new IllegalStateException("image");
        return y;
    }

    private static boolean same(CubeNets x, CubeNets y) { return java.util.Arrays.equals(picture(x), picture(y)); }

    private static CubeNets tree(int nodes) {
        CubeNets x = Bench.of("nodes a;");
        for (int i = 1; i < nodes; i++) x.grow(r.nextInt(i));
        return x;
    }

    /** A set of nodes that hangs together, grown by lines. */
    private static int patch(CubeNets x, int size) {
        int set = 1 << r.nextInt(x.has(0));
        for (int turn = 0; turn < 60 && Integer.bitCount(set) < size; turn++) {
            int l = r.nextInt(Math.max(1, x.has(1)));
            int ends = x.has(1) == 0 ? 0 : 1 << x.line(l, 0) | 1 << x.line(l, 1);
            if ((ends & set) != 0) set |= ends;
        }
        return set;
    }

    /** Two sets to open by, both of them distance-true, or null. */
    private static int[] trueSets(CubeNets x) {
        int all = Bench.first(x.has(0));
        for (int turn = 0; turn < 20; turn++) {
            int a = r.nextInt(3) == 0 ? all : patch(x, 1 + r.nextInt(x.has(0)));
            int b = (all & ~a) | patch(x, 1 + r.nextInt(x.has(0)));
            for (int l = 0; l < x.has(1); l++) {
                int ends = 1 << x.line(l, 0) | 1 << x.line(l, 1);
                if ((ends & ~a) != 0 && (ends & ~b) != 0) b |= ends;
            }
            if ((a & b) != 0 && x.set(a, 0) == 1 && x.set(b, 0) == 1) return new int[] {a, b};
        }
        return null;
    }

    /** A net that sits: grown from one node by opening it along distance-true sets, each step held to the laws of that. */
    private static CubeNets opened(int steps) {
        CubeNets x = Bench.of("nodes a;");
        for (int i = 0; i < steps; i++) {
            int[] sets = trueSets(x);
            if (sets == null) return x;
            CubeNets ahead = twin(x);
            CubeNets next = twin(x);
            if (next.open(sets[0], sets[1]) == NONE) return x;
            openLaws(ahead, next, sets[0], sets[1]);
            x = twin(next);
        }
        return x;
    }

    private static void openLaws(CubeNets ahead, CubeNets next, int a, int b) {
        Bench.edge("opened along two distance-true sets it sits, with one direction more");
        Bench.due("has(6)", next.has(6), 0);
        Bench.due("has(2)", next.has(2), ahead.has(2) + 1);
        Bench.due("has(0)", next.has(0), ahead.has(0) + Integer.bitCount(a & b));
        int kind = next.line(next.has(1) - 1, 2);
        Bench.due("lines of the new class", next.sort(kind, 0), Integer.bitCount(a & b));
        int half = next.sort(kind, 3);
        int old = Bench.first(ahead.has(0));
        int second = Bench.first(next.has(0)) & ~old;
        // The side depends on which end of the least line is the lower one: the second ones have one side, A the other.
        boolean up = (half & second) == second;
        Bench.due("second ones have one side", up || (half & second) == 0 ? 1 : 0, 1);
        Bench.due("nodes of A have the other", (up ? half : ~half) & old, b & ~a);
        Bench.edge("pressed again the net is as it was");
        Bench.due("press", next.press(kind), ahead.has(0));
        Bench.due("same", same(next, ahead) ? 1 : 0, 1);
        Bench.yes("undo", next.undo());
    }

    // ---- laws of each net

    private static void anyNet(CubeNets x) {
        int n = x.has(0);
        Bench.edge("far is a distance");
        for (int a = 0; a < n; a++)
            for (int b = 0; b < n; b++) {
                Bench.due("far both ways", x.far(a, b), x.far(b, a));
                Bench.due("ways both ways", x.ways(a, b), x.ways(b, a));
                Bench.due("between both ways", x.between(a, b), x.between(b, a));
                Bench.due("only one is 0 far from itself", x.far(a, b) == 0 ? 1 : 0, a == b ? 1 : 0);
                for (int c = 0; c < n && x.far(a, b) != NONE && x.far(b, c) != NONE; c++) {
                    if (x.far(a, c) > x.far(a, b) + x.far(b, c)) Bench.due("a way over a third is no shorter", 0, 1);
                }
            }
        Bench.edge("lines that a node has are two ends each");
        int degrees = 0;
        for (int v = 0; v < n; v++) degrees += x.degree(v);
        Bench.due("degrees", degrees, 2 * x.has(1));
        Bench.edge("classes are all lines");
        int lines = 0;
        for (int k = 0; k < x.has(2); k++) lines += x.sort(k, 0);
        Bench.due("lines", lines, x.has(1));
        for (int l = 0; l < x.has(1); l++) Bench.due("a line is no earlier than its class", x.sort(x.line(l, 2), 1) <= l ? 1 : 0, 1);
    }

    /** A sitting net: far is how many sides differ, and all that follows of it. */
    private static void sitting(CubeNets x) {
        int n = x.has(0);
        Bench.edge("far is how many sides are unlike");
        for (int a = 0; a < n; a++) {
            Bench.due("at(sides)", x.at(x.sides(a)), a);
            for (int b = 0; b < n; b++) Bench.due("far(" + a + "," + b + ")", x.far(a, b), Integer.bitCount(x.sides(a) ^ x.sides(b)));
        }
        Bench.edge("spread is all costs together");
        int costs = 0;
        for (int k = 0; k < x.has(2); k++) costs += x.sort(k, 2);
        Bench.due("spread", x.spread(), costs);
        Bench.edge("cubes of no direction are nodes, of one lines");
        Bench.due("cubes(0)", x.cubes(0), n);
        Bench.due("cubes(1)", x.cubes(1), x.has(1));
        Bench.edge("the greatest cube's directions cross");
        for (int k = 0; k < 6; k++) if (x.cubes(k) > 0) Bench.due("most(0)", x.most(0) >= k ? 1 : 0, 1);
        Bench.due("most as bits", Integer.bitCount(x.most(1)), x.most(0));
        for (int a = 0; a < x.has(2); a++)
            for (int b = 0; b < x.has(2); b++)
                if (a != b) {
                    if ((x.most(1) >> a & x.most(1) >> b & 1) == 1) Bench.due("cross", x.cross(a, b), 4);
                    int fitting = 0;
                    for (int s = 0; s < 4; s++) fitting += x.fit(2 * a + s / 2, 2 * b + s % 2);
                    Bench.due("beside: just one pair of halves fits", fitting, 4 - x.cross(a, b));
                }
        Bench.edge("halves are closed, and few is no less than what crosses");
        for (int k = 0; k < x.has(2); k++) {
            Bench.due("closed", x.set(x.sort(k, 3), 1), 1);
            Bench.due("closed", x.set(Bench.first(n) & ~x.sort(k, 3), 1), 1);
        }
        if (x.has(2) <= 8) {
            Bench.due("few", x.few() >= x.most(0) && x.few() <= x.has(2) ? 1 : 0, 1);
        } else {
            Bench.none("few", x.few());
        }
        hulls(x);
        votes(x);
        fairPrices(twin(x));
        pressed(x);
    }

    /** In a cube the closed set around some is what all halves that hold them share. */
    private static void hulls(CubeNets x) {
        Bench.edge("the hull is what the halves around share");
        for (int turn = 0; turn < 6; turn++) {
            int set = r.nextInt(1 << x.has(0)) & r.nextInt(1 << x.has(0)) & r.nextInt(1 << x.has(0));
            int share = set == 0 ? 0 : Bench.first(x.has(0));
            for (int k = 0; k < x.has(2); k++)
                for (int half : new int[] {x.sort(k, 3), Bench.first(x.has(0)) & ~x.sort(k, 3)})
                    if ((set & ~half) == 0) share &= half;
            Bench.due("hull(" + set + ")", x.hull(set), share);
            Bench.due("closed just if it is its own hull", x.set(set, 1), x.hull(set) == set ? 1 : 0);
            Bench.due("a hull is closed", x.set(x.hull(set), 1), 1);
            Bench.due("a hull is true", x.set(x.hull(set), 0), 1);
        }
    }

    private static void votes(CubeNets x) {
        Bench.edge("votes: each direction costs its lesser side, if the majority is there");
        for (int turn = 0; turn < 3; turn++) {
            int[] row = new int[1 + r.nextInt(15)];
            for (int i = 0; i < row.length; i++) row[i] = r.nextInt(x.has(0));
            Bench.due("vote", Bench.bytes(x, row).vote(), row.length);
            int least = 0;
            for (int k = 0; k < x.has(2); k++) {
                int ones = 0;
                for (int v : row) ones += x.sides(v) >> k & 1;
                least += Math.min(ones, row.length - ones);
            }
            boolean there = x.winner(2) != NONE;
            Bench.due("winner(1) is no less", x.winner(1) >= least ? 1 : 0, 1);
            if (there) Bench.due("winner(1)", x.winner(1), least);
            if (there && row.length % 2 == 1) Bench.due("of odd many the majority wins", x.winner(0), x.winner(2));
            if (x.medians(0) == 1 && row.length % 2 == 1) Bench.due("with medians the majority of odd many is there", there ? 1 : 0, 1);
        }
    }

    /** Where each class has one price, a cheapest way goes through each unlike direction once. */
    private static void fairPrices(CubeNets x) {
        Bench.edge("fair: the cheapest way costs each unlike direction once");
        int[] of = new int[x.has(2)];
        for (int k = 0; k < of.length; k++) of[k] = 1 + r.nextInt(9);
        for (int l = 0; l < x.has(1); l++) x.toll(l, of[x.line(l, 2)]);
        Bench.due("has(7)", x.has(7), 1);
        for (int turn = 0; turn < 8; turn++) {
            int a = r.nextInt(x.has(0)), b = r.nextInt(x.has(0));
            int sum = 0;
            for (int k = 0; k < of.length; k++) if (((x.sides(a) ^ x.sides(b)) >> k & 1) == 1) sum += of[k];
            Bench.due("price", x.price(a, b, 0), sum);
            Bench.due("road", x.road(a, b, -1), x.far(a, b) + 1);
        }
        int l = x.has(1) > 0 ? r.nextInt(x.has(1)) : 0;
        if (x.has(1) > 0 && x.sort(x.line(l, 2), 0) > 1) {
            x.toll(l, of[x.line(l, 2)] % 9 + 1);
            Bench.due("has(7)", x.has(7), 0);
        }
    }

    private static void pressed(CubeNets x) {
        Bench.edge("pressed, a net that sits still sits, without that direction");
        for (int k = 0; k < x.has(2); k++) {
            CubeNets y = twin(x);
            Bench.due("press", y.press(k), x.has(0) - x.sort(k, 0));
            Bench.due("has(6)", y.has(6), 0);
            Bench.due("has(2)", y.has(2), x.has(2) - 1);
            Bench.yes("undo", y.undo());
            Bench.due("same", same(x, y) ? 1 : 0, 1);
        }
    }

    /** Nets in which each three nodes have one median. */
    private static void withMedians(CubeNets x) {
        Bench.edge("with medians: cubes by turns added and taken away are 1");
        int sum = 0;
        int greatest = 0;
        for (int k = 0; k < 6; k++) {
            sum += k % 2 == 0 ? x.cubes(k) : -x.cubes(k);
            if (x.cubes(k) > 0) greatest = k;
        }
        Bench.due("sum", sum, 1);
        Bench.edge("with medians: directions that cross are those of a cube");
        Bench.due("most(0)", x.most(0), greatest);
        Bench.edge("with medians: each closed set has a gate for each node");
        for (int turn = 0; turn < 4; turn++) {
            int set = x.hull(1 << r.nextInt(x.has(0)) | 1 << r.nextInt(x.has(0)));
            for (int v = 0; v < x.has(0); v++) {
                int g = x.gate(v, set);
                Bench.due("gate", g != NONE && (set >> g & 1) == 1 ? 1 : 0, 1);
                for (int w = 0; w < x.has(0); w++)
                    if ((set >> w & 1) == 1) Bench.due("nearest", x.far(v, g) + x.far(g, w), x.far(v, w));
            }
        }
    }

    private static void trees() {
        for (int nodes = 1; nodes <= 24; nodes++) {
            CubeNets x = tree(nodes);
            Bench.edge("a tree sits, each line a direction, none crosses");
            Bench.due("has(6)", x.has(6), 0);
            Bench.due("has(2)", x.has(2), nodes - 1);
            Bench.due("most(0)", x.most(0), Math.min(1, nodes - 1));
            Bench.due("medians(0)", x.medians(0), 1);
            int leaves = 0, ends = 0;
            for (int v = 0; v < nodes; v++)
                if (x.degree(v) <= 1) {
                    leaves++;
                    ends |= 1 << v;
                }
            Bench.due("its ends span it", x.hull(ends), Bench.first(nodes));
            Bench.edge("a tree needs half as many paths as it has ends");
            if (nodes > 1 && nodes <= 9) Bench.due("few", x.few(), (leaves + 1) / 2);
            sitting(x);
            withMedians(x);
        }
    }

    private static void rings() {
        for (int n = 3; n <= 24; n++) {
            String row = Bench.row(n, ",");
            CubeNets x = Bench.of("nodes " + row + ";way " + row + ";way " + (char) ('a' + n - 1) + ",a;");
            Bench.edge("a ring of odd many sits in none, of even many in a cube of half as many directions");
            Bench.due("has(6)", x.has(6), n % 2 == 1 ? 2 : 0);
            if (n % 2 == 1) continue;
            Bench.due("has(2)", x.has(2), n / 2);
            Bench.due("most(0)", x.most(0), n / 2);
            for (int v = 0; v < n; v++) Bench.due("opposite", x.opposite(v), (v + n / 2) % n);
            if (n <= 16) Bench.due("few", x.few(), n / 2);
            sitting(x);
        }
    }

    /** Grids of w times h: two directions' worth of paths. */
    private static void grids() {
        for (int w = 2; w <= 6; w++)
            for (int h = 2; h * w <= 24; h++) {
                StringBuilder s = new StringBuilder("nodes " + Bench.row(w * h, ",") + ";");
                for (int v = 0; v < w * h; v++) {
                    if (v % w + 1 < w) s.append("way ").append((char) ('a' + v)).append(',').append((char) ('b' + v)).append(';');
                    if (v + w < w * h) s.append("way ").append((char) ('a' + v)).append(',').append((char) ('a' + v + w)).append(';');
                }
                CubeNets x = Bench.of(s.toString());
                Bench.edge("a grid has so many directions, squares, and needs two paths");
                Bench.due("has(2)", x.has(2), w + h - 2);
                Bench.due("cubes(2)", x.cubes(2), (w - 1) * (h - 1));
                if (w + h <= 10) Bench.due("few", x.few(), 2);
                Bench.due("medians(0)", x.medians(0), 1);
                sitting(x);
                withMedians(x);
            }
    }

    private static void seen(CubeNets x) {
        Bench.edge("a node fits what is told of it by far, and all told tell it alone");
        int n = x.has(0), goal = r.nextInt(n);
        int rows = Math.min(12, n);
        int[] row = new int[2 * rows];
        for (int i = 0; i < rows; i++) {
            row[2 * i] = r.nextInt(n);
            row[2 * i + 1] = Math.max(0, x.far(goal, row[2 * i]));
            if (x.far(goal, row[2 * i]) == NONE) row[2 * i] = goal;
        }
        Bench.due("see", Bench.bytes(x, row).see(), rows);
        Bench.due("fits", x.fits() >> goal & 1, 1);
        int many = Integer.bitCount(x.fits());
        Bench.due("tells leaves some, and no more than there are", x.tells(1) >= 1 && x.tells(1) <= many ? 1 : 0, 1);
        if (many == 1) Bench.due("the first tells one", x.tells(0), 0);
        if (many == 2) Bench.due("of two one of them tells", x.tells(1), 1);
    }

    private static void roads(CubeNets x) {
        Bench.edge("a cheapest way goes by lines, costs what it is told to, and no bar is above it");
        for (int l = 0; l < x.has(1); l++) x.toll(l, 1 + r.nextInt(9));
        for (int turn = 0; turn < 10; turn++) {
            int a = r.nextInt(x.has(0)), b = r.nextInt(x.has(0));
            int stops = x.road(a, b, -1), sum = 0, dearest = 0;
            if (x.far(a, b) == NONE) {
                Bench.none("road", stops);
                continue;
            }
            for (int k = 0; k + 1 < stops; k++) {
                int u = x.road(a, b, k), v = x.road(a, b, k + 1), price = 0;
                for (int l = 0; l < x.has(1); l++)
                    if (x.line(l, 0) == Math.min(u, v) && x.line(l, 1) == Math.max(u, v)) price = x.line(l, 3);
                Bench.due("a line", price > 0 ? 1 : 0, 1);
                sum += price;
                dearest = Math.max(dearest, price);
            }
            Bench.due("first", x.road(a, b, 0), a);
            Bench.due("last", x.road(a, b, stops - 1), b);
            Bench.due("price", x.price(a, b, 0), sum);
            Bench.due("price back", x.price(b, a, 0), sum);
            Bench.due("bar", x.price(a, b, 1) <= dearest ? 1 : 0, 1);
            Bench.due("bar back", x.price(b, a, 1), x.price(a, b, 1));
        }
    }

    public static void main(String[] args) {
        int from = args.length > 1 ? Integer.parseInt(args[0]) : 0;
        int to = args.length > 1 ? Integer.parseInt(args[1]) : 40;
        r = new Random(from);
        trees();
        rings();
        grids();
        for (int run = from; run < to; run++) {
            r = new Random(run);
            CubeNets x = opened(1 + r.nextInt(9));
            anyNet(x);
            sitting(x);
            if (x.medians(0) == 1) withMedians(x);
            seen(x);
            roads(twin(x));
            CubeNets y = twin(x);
            y.seed(run);
            y.chance(1 + r.nextInt(40));
            anyNet(y);
            if (y.has(6) == 0) sitting(y);
            seen(y);
            roads(twin(y));
        }
        Bench.finish();
    }
}
