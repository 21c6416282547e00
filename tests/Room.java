import java.lang.management.ManagementFactory;

/** Calls make no objects: what a run needs is made in the constructor. */
public final class Room {
    private static int sum = 0;

    private static void load(CubeNets x) {
        // nodes a,b,c,d,e;way a,b,c,d,a;way d,e;
        x.feed(1852793957, 1931501868, 1647076140, 1680631099, 2002876704);
        x.feed(1630298668, 1663853612, 1631287137, 2032165932, 1698373664);
        x.end(38);
        sum += x.net();
    }

    private static void ask(CubeNets x, int i) {
        int a = i % 5, b = i % 3, k = i % 2;
        for (int w = 0; w < 8; w++) sum += x.has(w);
        sum += x.letter(a, b) + x.line(a, b) + x.degree(a) + x.far(a, b) + x.ways(a, b) + x.between(a, b) + x.reach(a);
        sum += x.price(a, b, k) + x.road(a, b, k) + x.spread() + x.alike(a, b) + x.sort(k, b) + x.shows(k) + x.sides(a);
        sum += x.at(a) + x.cross(0, 1) + x.fit(a, b) + x.cubes(b) + x.most(k) + x.opposite(a) + x.even(k) + x.few();
        sum += x.median(a, b, k) + x.medians(b) + x.set(i % 32, k) + x.hull(i % 32) + x.gate(a, i % 32);
        x.feed(0x01020304, 0, 0, 0, 0);
        x.end(4);
        sum += x.vote() + x.winner(b);
        x.feed(0x01010301, 0, 0, 0, 0);
        x.end(4);
        sum += x.see() + x.fits() + x.tells(k) + x.named() + x.fault(k) + x.status(b);
    }

    private static void act(CubeNets x, int i) {
        x.seed(i);
        sum += x.join(0, 2) + x.grow(1) + x.press(1) + x.open(15, 15) + x.chance(1 + i % 40);
        x.toll(0, 3);
        x.drop(0);
        x.cut(0);
        x.undo();
        sum += x.image() + x.octet(1);
        x.on();
    }

    private static void run(CubeNets x, int rounds) {
        for (int i = 0; i < rounds; i++) {
            load(x);
            ask(x, i);
            act(x, i);
            ask(x, i);
        }
    }

    public static void main(String[] args) {
        com.sun.management.ThreadMXBean bean = (com.sun.management.ThreadMXBean) ManagementFactory.getThreadMXBean();
        long me = Thread.currentThread().getId();
        run(new CubeNets(), 50);
        long ahead = bean.getThreadAllocatedBytes(me);
        CubeNets x = new CubeNets();
        long made = bean.getThreadAllocatedBytes(me) - ahead;
        run(x, 200);
        long more = bean.getThreadAllocatedBytes(me) - ahead - made;
        System.out.println("an object takes " + made + " bytes, its calls " + more + " more (" + sum + ")");
        if (made > 100000 || more > 4096) System.exit(1);
    }
}
