/** Networks that sit distance-true in cubes. The numbered promises are in the document. */
public final class CubeNets {
    public static final int NONE = -1;

    private static final int MOST_NODES = 24;
    private static final int MOST_LINES = 60;
    private static final int MOST_ROW = 24;
    private static final int MOST_LETTERS = 4;
    private static final int MOST_BYTES = 800;
    private static final int BYTES_A_FEED = 20;
    private static final int MOST_UNDONE = 20;
    private static final int MOST_VOTES = 15;
    private static final int MOST_SEEN = 12;
    private static final int MOST_NUMBER = 23;
    private static final int MOST_PRICE = 9;
    private static final int MOST_TIMES = 40;
    private static final int MOST_WAYS = 1000000000;
    private static final int MOST_FEW = 8;
    // A cube of five directions would have 32 nodes.
    private static final int MOST_CUBE = 4;
    // Above every sum of prices along a way (at most 23 lines of price 9).
    private static final int TOO_DEAR = 1000000;

    private static final int FAULT_FORM = 1;
    private static final int FAULT_NAME = 3;
    private static final int FAULT_LINE = 4;
    private static final int FAULT_MANY = 5;
    private static final String WORD_NODES = "nodes";
    private static final String WORD_WAY = "way";

    private static final int REFUSED_TAPE = 0;
    private static final int REFUSED_TEXT = 1;
    private static final int REFUSED_HAND = 2;
    private static final int REFUSED_WHOLE = 3;
    private static final int REFUSED_UNDO = 4;
    private static final int REFUSED_SEED = 5;
    private static final int REFUSED_KINDS = 6;

    private static final int APART = 1;
    private static final int EQUALLY_FAR = 2;
    private static final int NOT_ALIKE = 3;

    private final Tape tape = new Tape();
    private final Reader reader = new Reader();
    private final Graph graph = new Graph();
    private final Past past = new Past();
    private final Metric metric = new Metric();
    private final Kinds kinds = new Kinds();
    private final Seat seat = new Seat();
    private final Roads roads = new Roads();
    private final Search search = new Search();
    private final Picture picture = new Picture();
    private final int[] votes = new int[MOST_VOTES];
    private final int[] seenNodes = new int[MOST_SEEN];
    private final int[] seenSteps = new int[MOST_SEEN];
    private final int[] tally = new int[MOST_NODES + 1];
    private final int[] refused = new int[REFUSED_KINDS];
    private int voteCount = 0;
    private int seenCount = 0;
    private int chain = 1;

    public CubeNets() {
    }

    // ---- the tape, the net

    public int feed(int a, int b, int c, int d, int e) {
        if (tape.length + BYTES_A_FEED > MOST_BYTES) {
            return refuse(REFUSED_TAPE);
        }
        tape.put(a);
        tape.put(b);
        tape.put(c);
        tape.put(d);
        tape.put(e);
        return tape.length;
    }

    public boolean end(int n) {
        if (n < 0 || n > tape.length) {
            return deny(REFUSED_TAPE);
        }
        tape.length = n;
        return true;
    }

    public int net() {
        reader.readNet(tape);
        tape.length = 0;
        if (reader.kind != 0) {
            return refuse(REFUSED_TEXT);
        }
        graph.takeFrom(reader.draft);
        past.forget();
        voteCount = 0;
        seenCount = 0;
        changed();
        return reader.statements;
    }

    public int fault(int what) {
        if (what == 0) {
            return reader.kind;
        }
        return what == 1 ? reader.where : NONE;
    }

    public int has(int what) {
        switch (what) {
            case 0:
                return graph.nodes;
            case 1:
                return graph.lines;
            case 2:
                return sorted().count;
            case 3:
                return voteCount;
            case 4:
                return seenCount;
            case 5:
                return past.count;
            case 6:
                return seated().reason;
            case 7:
                return sorted().isFair(graph) ? 1 : 0;
            default:
                return NONE;
        }
    }

    public int letter(int node, int k) {
        if (!graph.isNode(node) || k < 0 || k >= MOST_LETTERS) {
            return NONE;
        }
        return letterOf(graph.names[node], k);
    }

    public int named() {
        int name = reader.readName(tape);
        tape.length = 0;
        return graph.findName(name);
    }

    public int line(int line, int what) {
        if (!graph.isLine(line)) {
            return NONE;
        }
        switch (what) {
            case 0:
                return graph.low[line];
            case 1:
                return graph.high[line];
            case 2:
                return sorted().of[line];
            case 3:
                return graph.prices[line];
            default:
                return NONE;
        }
    }

    public int degree(int node) {
        if (!graph.isNode(node)) {
            return NONE;
        }
        return Integer.bitCount(measured().near[node]);
    }

    // ---- far, between

    public int far(int one, int other) {
        if (!areNodes(one, other)) {
            return NONE;
        }
        return measured().steps[one][other];
    }

    public int ways(int one, int other) {
        if (!areNodes(one, other)) {
            return NONE;
        }
        return measured().countWays(one, other);
    }

    public int between(int one, int other) {
        if (!areNodes(one, other)) {
            return NONE;
        }
        return measured().amid(one, other);
    }

    public int reach(int node) {
        if (!graph.isNode(node)) {
            return NONE;
        }
        return measured().mostFrom(node);
    }

    public int price(int one, int other, int what) {
        if (what < 0 || what > 1 || !areNodes(one, other) || measured().steps[one][other] == NONE) {
            return NONE;
        }
        roads.weigh(graph, other, what == 1);
        return roads.cost[one];
    }

    public int road(int one, int other, int k) {
        if (k < NONE || k >= MOST_NODES || !areNodes(one, other) || measured().steps[one][other] == NONE) {
            return NONE;
        }
        roads.weigh(graph, other, false);
        roads.walk(graph, one, other);
        if (k == NONE) {
            return roads.length;
        }
        return k < roads.length ? roads.stops[k] : NONE;
    }

    public int spread() {
        return measured().sumAll();
    }

    // ---- classes, directions

    public int alike(int one, int other) {
        if (!graph.isLine(one) || !graph.isLine(other)) {
            return NONE;
        }
        return measured().areAlike(graph, one, other) ? 1 : 0;
    }

    public int sort(int kind, int what) {
        if (!isKind(kind)) {
            return NONE;
        }
        switch (what) {
            case 0:
                return kinds.size[kind];
            case 1:
                return kinds.least[kind];
            case 2:
                return isDirection(kind) ? seat.costOf(kind) : NONE;
            case 3:
                return isDirection(kind) ? seat.ones[kind] : NONE;
            default:
                return NONE;
        }
    }

    public int shows(int what) {
        if (seated().reason == 0) {
            return NONE;
        }
        if (what == 0) {
            return seat.first;
        }
        return what == 1 ? seat.second : NONE;
    }

    public int sides(int node) {
        if (!seated().sits || !graph.isNode(node)) {
            return NONE;
        }
        return seat.sides[node];
    }

    public int at(int sides) {
        return seated().sits ? seat.nodeAt(sides) : NONE;
    }

    public int cross(int one, int other) {
        if (one == other || !isDirection(one) || !isDirection(other)) {
            return NONE;
        }
        return seat.countPairs(one, other);
    }

    public int fit(int one, int other) {
        if (one == other || !isHalf(one) || !isHalf(other)) {
            return NONE;
        }
        return seat.doFit(one, other) ? 1 : 0;
    }

    public int cubes(int k) {
        if (k < 0 || !seated().sits) {
            return NONE;
        }
        return seat.countCubes(k);
    }

    public int most(int what) {
        if (what < 0 || what > 1 || !seated().sits) {
            return NONE;
        }
        search.findCrossing(seat);
        return what == 0 ? search.best : search.bestBits;
    }

    public int opposite(int node) {
        if (!seated().sits || !graph.isNode(node)) {
            return NONE;
        }
        return seat.nodeAt(seat.sides[node] ^ allBits(seat.directions));
    }

    public int even(int what) {
        if (what < 0 || what > 1 || !seated().sits || seat.directions == 0) {
            return NONE;
        }
        int best = 0;
        for (int d = 1; d < seat.directions; d++) {
            if (seat.costOf(d) > seat.costOf(best)) {
                best = d;
            }
        }
        return what == 0 ? best : seat.costOf(best);
    }

    public int few() {
        if (!seated().sits || seat.directions > MOST_FEW) {
            return NONE;
        }
        search.findPairs(seat);
        return seat.directions - search.best;
    }

    // ---- medians, votes, sets

    public int median(int one, int other, int third) {
        if (!areNodes(one, other) || !graph.isNode(third)) {
            return NONE;
        }
        return measured().amid(one, other) & metric.amid(other, third) & metric.amid(one, third);
    }

    public int medians(int what) {
        if (what < 0 || what > 3) {
            return NONE;
        }
        int three = measured().firstWithoutMedian();
        if (what == 0) {
            return three == NONE ? 1 : 0;
        }
        if (three == NONE) {
            return NONE;
        }
        return (three >> (8 * (3 - what))) & 255;
    }

    public int vote() {
        int length = tape.length;
        tape.length = 0;
        boolean right = length >= 1 && length <= MOST_VOTES;
        for (int i = 0; right && i < length; i++) {
            right = graph.isNode(tape.bytes[i]);
        }
        if (!right) {
            return refuse(REFUSED_TEXT);
        }
        for (int i = 0; i < length; i++) {
            votes[i] = tape.bytes[i];
        }
        voteCount = length;
        return voteCount;
    }

    public int winner(int what) {
        if (what < 0 || what > 2 || voteCount == 0 || !measured().whole || !areNodesStill(votes, voteCount)) {
            return NONE;
        }
        if (what == 2) {
            return seated().sits ? seat.nodeAt(majority()) : NONE;
        }
        int best = 0;
        for (int node = 1; node < graph.nodes; node++) {
            if (farFromVotes(node) < farFromVotes(best)) {
                best = node;
            }
        }
        return what == 0 ? best : farFromVotes(best);
    }

    public int set(int nodes, int what) {
        if (what < 0 || what > 1 || !isSet(nodes)) {
            return NONE;
        }
        boolean holds = what == 0 ? metric.isTrue(nodes) : metric.widen(nodes) == nodes;
        return holds ? 1 : 0;
    }

    public int hull(int nodes) {
        return isSet(nodes) ? metric.close(nodes) : NONE;
    }

    public int gate(int node, int nodes) {
        if (!graph.isNode(node) || !isSet(nodes)) {
            return NONE;
        }
        return metric.findGate(node, nodes);
    }

    // ---- what was seen

    public int see() {
        int length = tape.length;
        tape.length = 0;
        boolean right = length >= 2 && length <= 2 * MOST_SEEN && length % 2 == 0;
        for (int i = 0; right && i + 1 < length; i += 2) {
            right = graph.isNode(tape.bytes[i]) && tape.bytes[i + 1] <= MOST_NUMBER;
        }
        if (!right) {
            return refuse(REFUSED_TEXT);
        }
        seenCount = length / 2;
        for (int i = 0; i < seenCount; i++) {
            seenNodes[i] = tape.bytes[2 * i];
            seenSteps[i] = tape.bytes[2 * i + 1];
        }
        return seenCount;
    }

    public int fits() {
        if (seenCount == 0 || !areNodesStill(seenNodes, seenCount)) {
            return NONE;
        }
        measured();
        int fitting = 0;
        for (int node = 0; node < graph.nodes; node++) {
            if (isAsSeen(node)) {
                fitting |= 1 << node;
            }
        }
        return fitting;
    }

    public int tells(int what) {
        int fitting = what < 0 || what > 1 ? NONE : fits();
        if (fitting == NONE || fitting == 0) {
            return NONE;
        }
        int best = 0;
        int left = mostLeft(0, fitting);
        for (int node = 1; node < graph.nodes; node++) {
            int here = mostLeft(node, fitting);
            if (here < left) {
                best = node;
                left = here;
            }
        }
        return what == 0 ? best : left;
    }

    // ---- acts

    public int join(int one, int other) {
        if (!graph.canJoin(one, other)) {
            return refuse(REFUSED_HAND);
        }
        past.keep(graph);
        graph.addLine(one, other, 1);
        changed();
        return graph.lines - 1;
    }

    public boolean cut(int line) {
        if (!graph.isLine(line)) {
            return deny(REFUSED_HAND);
        }
        past.keep(graph);
        graph.removeLine(line);
        changed();
        return true;
    }

    public boolean toll(int line, int price) {
        if (!graph.isLine(line) || price < 1 || price > MOST_PRICE || graph.prices[line] == price) {
            return deny(REFUSED_HAND);
        }
        past.keep(graph);
        graph.prices[line] = price;
        return true;
    }

    public int grow(int node) {
        if (!graph.canGrow(node)) {
            return refuse(REFUSED_HAND);
        }
        past.keep(graph);
        graph.addLeaf(node);
        changed();
        return graph.nodes - 1;
    }

    public boolean drop(int node) {
        if (!graph.isNode(node) || graph.nodes == 1) {
            return deny(REFUSED_HAND);
        }
        past.keep(graph);
        graph.removeNode(node);
        changed();
        return true;
    }

    public int press(int kind) {
        if (!isKind(kind)) {
            return refuse(REFUSED_WHOLE);
        }
        past.keep(graph);
        pressKind(kind);
        return graph.nodes;
    }

    public int open(int one, int other) {
        if (!graph.canOpen(one, other)) {
            return refuse(REFUSED_WHOLE);
        }
        past.keep(graph);
        graph.doubleAlong(one, other);
        changed();
        return graph.nodes;
    }

    public int chance(int n) {
        if (n < 1 || n > MOST_TIMES || graph.nodes == 0) {
            return refuse(REFUSED_WHOLE);
        }
        past.keep(graph);
        for (int i = 0; i < n; i++) {
            actBySeed();
        }
        return graph.nodes;
    }

    public boolean undo() {
        if (past.count == 0) {
            return deny(REFUSED_UNDO);
        }
        past.bringBack(graph);
        changed();
        return true;
    }

    public boolean seed(int seed) {
        if (seed < 0) {
            return deny(REFUSED_SEED);
        }
        chain = seed;
        return true;
    }

    // ---- images, refusals

    public int image() {
        picture.write(graph);
        return picture.length;
    }

    public int octet(int k) {
        return k >= 0 && k < picture.length ? picture.bytes[k] : NONE;
    }

    public boolean on() {
        boolean right = picture.read(tape);
        tape.length = 0;
        if (!right) {
            return deny(REFUSED_SEED);
        }
        graph.takeFrom(picture.draft);
        past.forget();
        changed();
        return true;
    }

    public int status(int what) {
        return what >= 0 && what < REFUSED_KINDS ? refused[what] : NONE;
    }

    // ---- helpers

    private int refuse(int kind) {
        refused[kind]++;
        return NONE;
    }

    private boolean deny(int kind) {
        refused[kind]++;
        return false;
    }

    private void changed() {
        metric.ready = false;
        kinds.ready = false;
        seat.ready = false;
    }

    private Metric measured() {
        if (!metric.ready) {
            metric.measure(graph);
        }
        return metric;
    }

    private Kinds sorted() {
        measured();
        if (!kinds.ready) {
            kinds.collect(graph, metric);
        }
        return kinds;
    }

    private Seat seated() {
        measured();
        if (!kinds.ready) {
            kinds.collect(graph, metric);
        }
        if (!seat.ready) {
            seat.settle(graph, metric, kinds);
        }
        return seat;
    }

    private boolean areNodes(int one, int other) {
        return graph.isNode(one) && graph.isNode(other);
    }

    private boolean areNodesStill(int[] row, int count) {
        for (int i = 0; i < count && i < row.length; i++) {
            if (!graph.isNode(row[i])) {
                return false;
            }
        }
        return true;
    }

    private boolean isKind(int kind) {
        return kind >= 0 && kind < sorted().count;
    }

    private boolean isDirection(int kind) {
        return seated().sits && kind >= 0 && kind < seat.directions;
    }

    private boolean isHalf(int half) {
        return seated().sits && half >= 0 && half < 2 * seat.directions;
    }

    private boolean isSet(int nodes) {
        return graph.nodes > 0 && measured().whole && (nodes & ~allBits(graph.nodes)) == 0;
    }

    private int farFromVotes(int node) {
        int sum = 0;
        for (int i = 0; i < voteCount; i++) {
            sum += metric.steps[node][votes[i]];
        }
        return sum;
    }

    private int majority() {
        int wanted = 0;
        for (int d = 0; d < seat.directions; d++) {
            int ones = 0;
            for (int i = 0; i < voteCount; i++) {
                ones += (seat.sides[votes[i]] >> d) & 1;
            }
            if (2 * ones > voteCount) {
                wanted |= 1 << d;
            }
        }
        return wanted;
    }

    private boolean isAsSeen(int node) {
        for (int i = 0; i < seenCount; i++) {
            if (metric.steps[node][seenNodes[i]] != seenSteps[i]) {
                return false;
            }
        }
        return true;
    }

    private int mostLeft(int node, int fitting) {
        for (int i = 0; i < tally.length; i++) {
            tally[i] = 0;
        }
        int most = 0;
        for (int other = 0; other < graph.nodes; other++) {
            if (hasBit(fitting, other)) {
                int steps = metric.steps[node][other];
                int number = steps == NONE ? MOST_NODES : steps;
                tally[number]++;
                most = Math.max(most, tally[number]);
            }
        }
        return most;
    }

    private void pressKind(int kind) {
        kinds.gather(graph, kind);
        graph.merge(kinds.group);
        changed();
    }

    private int draw(int m) {
        chain = (1103515245 * chain + 12345) & 0x7fffffff;
        return m > 0 ? (chain / 64) % m : 0;
    }

    private void actBySeed() {
        int which = draw(4);
        if (which < 2) {
            int node = draw(graph.nodes);
            if (graph.canGrow(node)) {
                graph.addLeaf(node);
                changed();
            }
        } else if (which == 2) {
            int one = draw(graph.nodes);
            int other = draw(graph.nodes);
            switchLine(one, other);
        } else {
            int count = sorted().count;
            int kind = draw(Math.max(1, count));
            if (kind < count) {
                pressKind(kind);
            }
        }
    }

    private void switchLine(int one, int other) {
        int line = graph.findLine(one, other);
        if (line != NONE) {
            graph.removeLine(line);
            changed();
        } else if (graph.canJoin(one, other)) {
            graph.addLine(one, other, 1);
            changed();
        }
    }

    private static int allBits(int count) {
        return (1 << count) - 1;
    }

    private static boolean hasBit(int bits, int k) {
        return ((bits >> k) & 1) != 0;
    }

    private static int letterOf(int name, int k) {
        return (name >> (5 * k)) & 31;
    }

    /** Bytes that calls are told by. */
    static final class Tape {
        final int[] bytes = new int[MOST_BYTES];
        int length = 0;

        void put(int number) {
            for (int shift = 24; shift >= 0 && length < MOST_BYTES; shift -= 8) {
                bytes[length] = (number >> shift) & 255;
                length++;
            }
        }

        int byteAt(int place) {
            return place >= 0 && place < length ? bytes[place] : NONE;
        }
    }

    /** Nodes, lines, names and prices: all that acts change. */
    static final class Graph {
        int nodes = 0;
        int lines = 0;
        // Letter k is in the bits from 5 k on; 0 is a node without a name.
        final int[] names = new int[MOST_NODES];
        final int[] low = new int[MOST_LINES];
        final int[] high = new int[MOST_LINES];
        final int[] prices = new int[MOST_LINES];
        final int[] renamed = new int[MOST_NODES];

        void wipe() {
            nodes = 0;
            lines = 0;
        }

        void takeFrom(Graph other) {
            nodes = other.nodes;
            lines = other.lines;
            System.arraycopy(other.names, 0, names, 0, nodes);
            System.arraycopy(other.low, 0, low, 0, lines);
            System.arraycopy(other.high, 0, high, 0, lines);
            System.arraycopy(other.prices, 0, prices, 0, lines);
        }

        boolean isNode(int node) {
            return node >= 0 && node < nodes;
        }

        boolean isLine(int line) {
            return line >= 0 && line < lines;
        }

        int findName(int name) {
            for (int node = 0; name != 0 && node < nodes; node++) {
                if (names[node] == name) {
                    return node;
                }
            }
            return NONE;
        }

        int findLine(int one, int other) {
            int lower = Math.min(one, other);
            int higher = Math.max(one, other);
            for (int line = 0; line < lines; line++) {
                if (low[line] == lower && high[line] == higher) {
                    return line;
                }
            }
            return NONE;
        }

        boolean canJoin(int one, int other) {
            return isNode(one) && isNode(other) && one != other && lines < MOST_LINES
                && findLine(one, other) == NONE;
        }

        boolean canGrow(int node) {
            return isNode(node) && nodes < MOST_NODES && lines < MOST_LINES;
        }

        void addNode(int name) {
            if (nodes < MOST_NODES) {
                names[nodes] = name;
                nodes++;
            }
        }

        void addLine(int one, int other, int price) {
            if (lines < MOST_LINES) {
                low[lines] = Math.min(one, other);
                high[lines] = Math.max(one, other);
                prices[lines] = price;
                lines++;
            }
        }

        void addLeaf(int node) {
            addNode(0);
            addLine(node, nodes - 1, 1);
        }

        void removeLine(int gone) {
            int old = lines;
            lines = 0;
            for (int line = 0; line < old; line++) {
                if (line != gone) {
                    addLine(low[line], high[line], prices[line]);
                }
            }
        }

        void removeNode(int gone) {
            int old = lines;
            lines = 0;
            for (int line = 0; line < old; line++) {
                int one = low[line];
                int other = high[line];
                if (one != gone && other != gone) {
                    addLine(one > gone ? one - 1 : one, other > gone ? other - 1 : other, prices[line]);
                }
            }
            nodes--;
            for (int node = gone; node < nodes; node++) {
                names[node] = names[node + 1];
            }
        }

        /** Makes one node of all that have the same entry, which is the least of them. */
        void merge(int[] least) {
            int count = 0;
            for (int node = 0; node < nodes; node++) {
                if (least[node] == node) {
                    renamed[node] = count;
                    names[count] = names[node];
                    count++;
                }
            }
            nodes = count;
            int old = lines;
            lines = 0;
            for (int line = 0; line < old; line++) {
                int one = renamed[least[low[line]]];
                int other = renamed[least[high[line]]];
                if (one != other && findLine(one, other) == NONE) {
                    addLine(one, other, prices[line]);
                }
            }
        }

        boolean canOpen(int one, int other) {
            int both = one & other;
            if ((one | other) != allBits(nodes) || both == 0) {
                return false;
            }
            int added = Integer.bitCount(both);
            int more = added;
            for (int line = 0; line < lines; line++) {
                int ends = (1 << low[line]) | (1 << high[line]);
                if ((ends & one) != ends && (ends & other) != ends) {
                    return false;
                }
                if ((ends & both) == ends) {
                    more++;
                }
            }
            return nodes + added <= MOST_NODES && lines + more <= MOST_LINES;
        }

        /** Opens the net by two sets that canOpen() took. */
        void doubleAlong(int one, int other) {
            int both = one & other;
            int oldNodes = nodes;
            int oldLines = lines;
            for (int node = 0; node < oldNodes; node++) {
                if (hasBit(both, node)) {
                    renamed[node] = nodes;
                    addNode(0);
                }
            }
            for (int line = 0; line < oldLines; line++) {
                if (hasBit(both, low[line]) && hasBit(both, high[line])) {
                    addLine(renamed[low[line]], renamed[high[line]], prices[line]);
                }
            }
            for (int line = 0; line < oldLines; line++) {
                moveToSecond(line, both, other & ~one);
            }
            for (int node = 0; node < oldNodes; node++) {
                if (hasBit(both, node)) {
                    addLine(node, renamed[node], 1);
                }
            }
        }

        private void moveToSecond(int line, int both, int alone) {
            int one = low[line];
            int other = high[line];
            if (hasBit(both, one) && hasBit(alone, other)) {
                low[line] = other;
                high[line] = renamed[one];
            } else if (hasBit(both, other) && hasBit(alone, one)) {
                high[line] = renamed[other];
            }
        }
    }

    /** Reads a net's text; kind and where tell the fault of the latest one. */
    static final class Reader {
        final Graph draft = new Graph();
        int kind = 0;
        int where = NONE;
        int statements = 0;
        private int place = 0;
        private int wordStart = 0;
        private int wordLength = 0;
        private int wordName = 0;

        void readNet(Tape tape) {
            draft.wipe();
            kind = 0;
            where = NONE;
            statements = 0;
            place = 0;
            readRow(tape, false);
            skipBlanks(tape);
            for (int i = 0; i < MOST_BYTES && kind == 0 && place < tape.length; i++) {
                readRow(tape, true);
                skipBlanks(tape);
            }
        }

        /** The name that the whole tape is; 0 when it is none. */
        int readName(Tape tape) {
            place = 0;
            readWord(tape);
            boolean whole = wordLength == tape.length && wordLength <= MOST_LETTERS;
            return whole ? wordName : 0;
        }

        private void fail(int faultKind, int faultPlace) {
            kind = faultKind;
            where = faultPlace;
        }

        private void skipBlanks(Tape tape) {
            while (place < tape.length && (tape.byteAt(place) == 32 || tape.byteAt(place) == 10)) {
                place++;
            }
        }

        private void readWord(Tape tape) {
            wordStart = place;
            wordLength = 0;
            wordName = 0;
            while (place < tape.length && tape.byteAt(place) >= 'a' && tape.byteAt(place) <= 'z') {
                if (wordLength < MOST_LETTERS) {
                    wordName |= (tape.byteAt(place) - 'a' + 1) << (5 * wordLength);
                }
                wordLength++;
                place++;
            }
        }

        private boolean isWord(Tape tape, String word) {
            boolean same = wordLength == word.length();
            for (int i = 0; same && i < word.length(); i++) {
                same = tape.byteAt(wordStart + i) == word.charAt(i);
            }
            return same;
        }

        private void readRow(Tape tape, boolean way) {
            skipBlanks(tape);
            readWord(tape);
            if (!isWord(tape, way ? WORD_WAY : WORD_NODES)) {
                fail(FAULT_FORM, wordStart);
            }
            int fewest = way ? 2 : 1;
            int last = NONE;
            boolean more = kind == 0;
            for (int count = 1; more && count <= MOST_ROW; count++) {
                last = way ? readStop(tape, last) : readNode(tape);
                more = kind == 0 && readComma(tape, count >= fewest);
            }
            if (more) {
                skipBlanks(tape);
                fail(place < tape.length ? FAULT_MANY : FAULT_FORM, place);
            }
        }

        /** Whether a comma follows; a semicolon ends the statement where enough names stand. */
        private boolean readComma(Tape tape, boolean enough) {
            skipBlanks(tape);
            int sign = tape.byteAt(place);
            if (sign == ',') {
                place++;
                return true;
            }
            if (sign == ';' && enough) {
                place++;
                statements++;
            } else {
                fail(FAULT_FORM, place);
            }
            return false;
        }

        private void readNameHere(Tape tape) {
            skipBlanks(tape);
            readWord(tape);
            if (wordLength == 0 || isWord(tape, WORD_NODES) || isWord(tape, WORD_WAY)) {
                fail(FAULT_FORM, wordStart);
            } else if (wordLength > MOST_LETTERS) {
                fail(FAULT_FORM, wordStart + MOST_LETTERS);
            }
        }

        private int readNode(Tape tape) {
            readNameHere(tape);
            if (kind == 0 && draft.findName(wordName) != NONE) {
                fail(FAULT_NAME, wordStart);
            }
            if (kind == 0) {
                draft.addNode(wordName);
            }
            return NONE;
        }

        /** The node told here, with a line from the one ahead (NONE for the first). */
        private int readStop(Tape tape, int ahead) {
            readNameHere(tape);
            int node = kind == 0 ? draft.findName(wordName) : NONE;
            if (kind == 0 && node == NONE) {
                fail(FAULT_NAME, wordStart);
            }
            if (kind == 0 && ahead != NONE) {
                if (node == ahead || draft.findLine(ahead, node) != NONE) {
                    fail(FAULT_LINE, wordStart);
                } else if (draft.lines >= MOST_LINES) {
                    fail(FAULT_MANY, wordStart);
                } else {
                    draft.addLine(ahead, node, 1);
                }
            }
            return node;
        }
    }

    /** The latest graphs ahead of acts, in a ring. */
    static final class Past {
        int count = 0;
        private int next = 0;
        private final Graph[] ring = new Graph[MOST_UNDONE];

        Past() {
            for (int i = 0; i < MOST_UNDONE; i++) {
                ring[i] = new Graph();
            }
        }

        void forget() {
            count = 0;
        }

        void keep(Graph graph) {
            ring[next].takeFrom(graph);
            next = (next + 1) % MOST_UNDONE;
            count = Math.min(count + 1, MOST_UNDONE);
        }

        void bringBack(Graph graph) {
            if (count > 0) {
                next = (next + MOST_UNDONE - 1) % MOST_UNDONE;
                count--;
                graph.takeFrom(ring[next]);
            }
        }
    }

    /** How far nodes are from one another, and what lies between. */
    static final class Metric {
        boolean ready = false;
        boolean whole = true;
        int nodes = 0;
        final int[] near = new int[MOST_NODES];
        final int[][] steps = new int[MOST_NODES][MOST_NODES];
        private final int[][] midst = new int[MOST_NODES][MOST_NODES];
        private boolean midstReady = false;
        private final long[] counts = new long[MOST_NODES];

        void measure(Graph graph) {
            nodes = graph.nodes;
            whole = true;
            midstReady = false;
            for (int node = 0; node < nodes; node++) {
                near[node] = 0;
            }
            for (int line = 0; line < graph.lines; line++) {
                near[graph.low[line]] |= 1 << graph.high[line];
                near[graph.high[line]] |= 1 << graph.low[line];
            }
            for (int node = 0; node < nodes; node++) {
                measureFrom(node);
            }
            ready = true;
        }

        private void measureFrom(int start) {
            int[] row = steps[start];
            for (int node = 0; node < nodes; node++) {
                row[node] = NONE;
            }
            int reached = 1 << start;
            int ring = reached;
            for (int step = 0; step < nodes && ring != 0; step++) {
                int next = 0;
                for (int node = 0; node < nodes; node++) {
                    if (hasBit(ring, node)) {
                        row[node] = step;
                        next |= near[node];
                    }
                }
                ring = next & ~reached;
                reached |= ring;
            }
            whole = whole && reached == allBits(nodes);
        }

        int countWays(int one, int other) {
            if (steps[one][other] == NONE) {
                return 0;
            }
            for (int step = 0; step <= steps[one][other]; step++) {
                for (int node = 0; node < nodes; node++) {
                    if (steps[one][node] == step) {
                        counts[node] = step == 0 ? 1 : countInto(one, node);
                    }
                }
            }
            return (int) counts[other];
        }

        private long countInto(int one, int node) {
            long sum = 0;
            for (int ahead = 0; ahead < nodes; ahead++) {
                if (hasBit(near[node], ahead) && steps[one][ahead] == steps[one][node] - 1) {
                    sum += counts[ahead];
                }
            }
            return Math.min(sum, MOST_WAYS);
        }

        /** What lies between two nodes, as bits; 0 when they are apart. */
        int amid(int one, int other) {
            if (!midstReady) {
                for (int a = 0; a < nodes; a++) {
                    for (int b = a; b < nodes; b++) {
                        midst[a][b] = findAmid(a, b);
                        midst[b][a] = midst[a][b];
                    }
                }
                midstReady = true;
            }
            return midst[one][other];
        }

        private int findAmid(int one, int other) {
            int length = steps[one][other];
            int bits = 0;
            for (int node = 0; length != NONE && node < nodes; node++) {
                if (steps[one][node] != NONE && steps[one][node] + steps[other][node] == length) {
                    bits |= 1 << node;
                }
            }
            return bits;
        }

        int mostFrom(int node) {
            int most = 0;
            for (int other = 0; other < nodes; other++) {
                most = Math.max(most, steps[node][other]);
            }
            return most;
        }

        int sumAll() {
            int sum = 0;
            for (int one = 0; one < nodes; one++) {
                for (int other = one + 1; other < nodes; other++) {
                    sum += Math.max(0, steps[one][other]);
                }
            }
            return sum;
        }

        boolean areAlike(Graph graph, int one, int other) {
            int[] fromLow = steps[graph.low[one]];
            int[] fromHigh = steps[graph.high[one]];
            int lower = graph.low[other];
            int higher = graph.high[other];
            if (fromLow[lower] == NONE) {
                return false;
            }
            return fromLow[lower] + fromHigh[higher] != fromLow[higher] + fromHigh[lower];
        }

        /** The first three nodes that have not just one median, a byte each; NONE without. */
        int firstWithoutMedian() {
            for (int a = 0; a < nodes; a++) {
                for (int b = a + 1; b < nodes; b++) {
                    for (int c = b + 1; c < nodes; c++) {
                        int common = amid(a, b) & amid(b, c) & amid(a, c);
                        if (Integer.bitCount(common) != 1) {
                            return (a << 16) | (b << 8) | c;
                        }
                    }
                }
            }
            return NONE;
        }

        boolean isTrue(int set) {
            for (int node = 0; node < nodes; node++) {
                if (hasBit(set, node) && !isTrueFrom(set, node)) {
                    return false;
                }
            }
            return true;
        }

        private boolean isTrueFrom(int set, int start) {
            int reached = 1 << start;
            int ring = reached;
            for (int step = 0; step < nodes && ring != 0; step++) {
                int next = 0;
                for (int node = 0; node < nodes; node++) {
                    if (hasBit(ring, node)) {
                        if (steps[start][node] != step) {
                            return false;
                        }
                        next |= near[node];
                    }
                }
                ring = next & set & ~reached;
                reached |= ring;
            }
            return reached == set;
        }

        /** The set with all that lies between two of it. */
        int widen(int set) {
            int wider = set;
            for (int one = 0; one < nodes; one++) {
                for (int other = one + 1; hasBit(set, one) && other < nodes; other++) {
                    if (hasBit(set, other)) {
                        wider |= amid(one, other);
                    }
                }
            }
            return wider;
        }

        int close(int set) {
            int closed = set;
            // Each round but the last adds a node.
            for (int round = 0; round < MOST_NODES; round++) {
                int wider = widen(closed);
                if (wider == closed) {
                    return closed;
                }
                closed = wider;
            }
            return closed;
        }

        int findGate(int node, int set) {
            for (int gate = 0; gate < nodes; gate++) {
                if (hasBit(set, gate) && liesAhead(node, gate, set)) {
                    return gate;
                }
            }
            return NONE;
        }

        private boolean liesAhead(int node, int gate, int set) {
            for (int other = 0; other < nodes; other++) {
                if (hasBit(set, other) && steps[node][gate] + steps[gate][other] != steps[node][other]) {
                    return false;
                }
            }
            return true;
        }
    }

    /** Classes of lines. */
    static final class Kinds {
        boolean ready = false;
        int count = 0;
        final int[] of = new int[MOST_LINES];
        final int[] size = new int[MOST_LINES];
        final int[] least = new int[MOST_LINES];
        final int[] group = new int[MOST_NODES];
        private final int[] waiting = new int[MOST_LINES];

        void collect(Graph graph, Metric metric) {
            count = 0;
            for (int line = 0; line < graph.lines; line++) {
                of[line] = NONE;
            }
            for (int line = 0; line < graph.lines; line++) {
                if (of[line] == NONE) {
                    collectFrom(graph, metric, line);
                }
            }
            ready = true;
        }

        private void collectFrom(Graph graph, Metric metric, int start) {
            of[start] = count;
            waiting[0] = start;
            int found = 1;
            for (int i = 0; i < found && i < MOST_LINES; i++) {
                for (int line = start + 1; line < graph.lines; line++) {
                    if (of[line] == NONE && metric.areAlike(graph, waiting[i], line)) {
                        of[line] = count;
                        waiting[found] = line;
                        found++;
                    }
                }
            }
            least[count] = start;
            size[count] = found;
            count++;
        }

        boolean isFair(Graph graph) {
            for (int line = 0; line < graph.lines; line++) {
                if (graph.prices[line] != graph.prices[least[of[line]]]) {
                    return false;
                }
            }
            return true;
        }

        /** Finds for each node the least one that it hangs together with by lines of a class. */
        void gather(Graph graph, int kind) {
            for (int node = 0; node < graph.nodes; node++) {
                group[node] = node;
            }
            for (int line = 0; line < graph.lines; line++) {
                if (of[line] == kind) {
                    unite(graph.nodes, group[graph.low[line]], group[graph.high[line]]);
                }
            }
        }

        private void unite(int nodes, int one, int other) {
            int kept = Math.min(one, other);
            int gone = Math.max(one, other);
            for (int node = 0; node < nodes; node++) {
                if (group[node] == gone) {
                    group[node] = kept;
                }
            }
        }
    }

    /** Whether the net sits in a cube, and where each node sits. */
    static final class Seat {
        boolean ready = false;
        boolean sits = false;
        int reason = 0;
        int first = NONE;
        int second = NONE;
        int nodes = 0;
        int directions = 0;
        final int[] sides = new int[MOST_NODES];
        final int[] ones = new int[MOST_LINES];

        void settle(Graph graph, Metric metric, Kinds kinds) {
            nodes = graph.nodes;
            findReason(graph, metric, kinds);
            sits = reason == 0 && nodes > 0;
            directions = sits ? kinds.count : 0;
            for (int node = 0; node < nodes; node++) {
                sides[node] = 0;
            }
            for (int d = 0; d < directions; d++) {
                part(d, metric.steps[graph.low[kinds.least[d]]], metric.steps[graph.high[kinds.least[d]]]);
            }
            ready = true;
        }

        private void part(int d, int[] fromLow, int[] fromHigh) {
            ones[d] = 0;
            for (int node = 0; node < nodes; node++) {
                if (fromLow[node] >= fromHigh[node]) {
                    ones[d] |= 1 << node;
                    sides[node] |= 1 << d;
                }
            }
        }

        private void findReason(Graph graph, Metric metric, Kinds kinds) {
            reason = 0;
            first = NONE;
            second = NONE;
            findApart(metric);
            if (reason == 0) {
                findEquallyFar(graph, metric);
            }
            if (reason == 0) {
                findNotAlike(graph, metric, kinds);
            }
        }

        private void tell(int why, int one, int other) {
            reason = why;
            first = one;
            second = other;
        }

        private void findApart(Metric metric) {
            for (int one = 0; reason == 0 && one < nodes; one++) {
                for (int other = one + 1; reason == 0 && other < nodes; other++) {
                    if (metric.steps[one][other] == NONE) {
                        tell(APART, one, other);
                    }
                }
            }
        }

        private void findEquallyFar(Graph graph, Metric metric) {
            for (int line = 0; reason == 0 && line < graph.lines; line++) {
                int[] fromLow = metric.steps[graph.low[line]];
                int[] fromHigh = metric.steps[graph.high[line]];
                for (int node = 0; reason == 0 && node < nodes; node++) {
                    if (fromLow[node] == fromHigh[node]) {
                        tell(EQUALLY_FAR, line, node);
                    }
                }
            }
        }

        private void findNotAlike(Graph graph, Metric metric, Kinds kinds) {
            for (int one = 0; reason == 0 && one < graph.lines; one++) {
                for (int other = one + 1; reason == 0 && other < graph.lines; other++) {
                    if (kinds.of[one] == kinds.of[other] && !metric.areAlike(graph, one, other)) {
                        tell(NOT_ALIKE, one, other);
                    }
                }
            }
        }

        int nodeAt(int wanted) {
            for (int node = 0; node < nodes; node++) {
                if (sides[node] == wanted) {
                    return node;
                }
            }
            return NONE;
        }

        int halfOf(int half) {
            int d = half / 2;
            return half % 2 == 1 ? ones[d] : allBits(nodes) & ~ones[d];
        }

        int costOf(int d) {
            int many = Integer.bitCount(ones[d]);
            return many * (nodes - many);
        }

        int countPairs(int one, int other) {
            int count = 0;
            for (int pair = 0; pair < 4; pair++) {
                if ((halfOf(2 * one + pair / 2) & halfOf(2 * other + pair % 2)) != 0) {
                    count++;
                }
            }
            return count;
        }

        boolean doFit(int one, int other) {
            int a = halfOf(one);
            int b = halfOf(other);
            return (a | b) == allBits(nodes) && (a & b) != 0;
        }

        int countCubes(int k) {
            int count = 0;
            for (int node = 0; k <= MOST_CUBE && node < nodes; node++) {
                count += cubesOn(1 << node, 0, k);
            }
            return count;
        }

        /** How many cubes grow out of a smaller one by so many more directions, rising. */
        private int cubesOn(int corners, int from, int more) {
            if (more <= 0) {
                return 1;
            }
            int count = 0;
            for (int d = from; d < directions; d++) {
                int across = acrossFrom(corners, d);
                if (across != 0) {
                    count += cubesOn(corners | across, d + 1, more - 1);
                }
            }
            return count;
        }

        /** The nodes of side 1 that corners of side 0 have across a direction; 0 if one has none. */
        private int acrossFrom(int corners, int d) {
            if ((corners & ones[d]) != 0) {
                return 0;
            }
            int across = 0;
            for (int node = 0; node < nodes; node++) {
                if (hasBit(corners, node)) {
                    int twin = nodeAt(sides[node] | (1 << d));
                    if (twin == NONE) {
                        return 0;
                    }
                    across |= 1 << twin;
                }
            }
            return across;
        }
    }

    /** Cheapest ways and least bars. */
    static final class Roads {
        final int[] cost = new int[MOST_NODES];
        final int[] stops = new int[MOST_NODES];
        int length = 0;

        /** Finds what the cheapest way from each node to a goal costs, or, by bars, their bar. */
        void weigh(Graph graph, int goal, boolean bars) {
            for (int node = 0; node < graph.nodes; node++) {
                cost[node] = node == goal ? 0 : TOO_DEAR;
            }
            boolean better = true;
            // A cheapest way has fewer lines than there are nodes.
            for (int round = 0; better && round < graph.nodes; round++) {
                better = false;
                for (int line = 0; line < graph.lines; line++) {
                    boolean there = lower(graph.low[line], graph.high[line], graph.prices[line], bars);
                    boolean back = lower(graph.high[line], graph.low[line], graph.prices[line], bars);
                    better = better || there || back;
                }
            }
        }

        private boolean lower(int node, int next, int price, boolean bars) {
            if (cost[next] >= TOO_DEAR) {
                return false;
            }
            int offer = bars ? Math.max(cost[next], price) : cost[next] + price;
            if (offer >= cost[node]) {
                return false;
            }
            cost[node] = offer;
            return true;
        }

        /** Walks the first of the cheapest ways, behind weigh() of the same goal by costs. */
        void walk(Graph graph, int start, int goal) {
            int node = start;
            stops[0] = start;
            length = 1;
            while (length < MOST_NODES && node != goal) {
                node = nextStop(graph, node);
                if (node == NONE) {
                    return;
                }
                stops[length] = node;
                length++;
            }
        }

        private int nextStop(Graph graph, int node) {
            int best = NONE;
            for (int line = 0; line < graph.lines; line++) {
                int other = NONE;
                if (graph.low[line] == node) {
                    other = graph.high[line];
                } else if (graph.high[line] == node) {
                    other = graph.low[line];
                }
                if (other != NONE && cost[other] + graph.prices[line] == cost[node]
                    && (best == NONE || other < best)) {
                    best = other;
                }
            }
            return best;
        }
    }

    /** Searches for the most directions that cross, and the most pairs of halves that fit. */
    static final class Search {
        int best = 0;
        int bestBits = 0;
        private final int[] friends = new int[MOST_LINES];

        void findCrossing(Seat seat) {
            for (int d = 0; d < seat.directions; d++) {
                friends[d] = 0;
                for (int other = 0; other < seat.directions; other++) {
                    if (other != d && seat.countPairs(d, other) == 4) {
                        friends[d] |= 1 << other;
                    }
                }
            }
            best = NONE;
            bestBits = 0;
            addCrossing(0, allBits(seat.directions), seat.directions);
        }

        // Sets come in the order of their bits, so the first of a size is the least.
        private void addCrossing(int chosen, int allowed, int depth) {
            int size = Integer.bitCount(chosen);
            if (size + Integer.bitCount(allowed) <= best) {
                return;
            }
            if (allowed == 0 || depth <= 0) {
                best = size;
                bestBits = chosen;
                return;
            }
            int top = highestOf(allowed);
            int others = allowed & ~(1 << top);
            addCrossing(chosen, others, depth - 1);
            addCrossing(chosen | (1 << top), others & friends[top], depth - 1);
        }

        private static int highestOf(int bits) {
            int top = 0;
            for (int k = 0; k < MOST_NODES; k++) {
                if (hasBit(bits, k)) {
                    top = k;
                }
            }
            return top;
        }

        void findPairs(Seat seat) {
            int halves = 2 * seat.directions;
            for (int one = 0; one < halves; one++) {
                friends[one] = 0;
                for (int other = 0; other < halves; other++) {
                    if (other != one && seat.doFit(one, other)) {
                        friends[one] |= 1 << other;
                    }
                }
            }
            best = 0;
            addPair(allBits(halves), 0, halves);
        }

        // Some largest choice of pairs has any half that fits another one still free:
        // so it is enough to try all partners of one half.
        private void addPair(int free, int pairs, int halves) {
            best = Math.max(best, pairs);
            int pick = NONE;
            int fewest = halves;
            int useful = 0;
            for (int half = 0; half < halves; half++) {
                int partners = hasBit(free, half) ? Integer.bitCount(friends[half] & free) : 0;
                if (partners > 0) {
                    useful++;
                    if (partners < fewest) {
                        fewest = partners;
                        pick = half;
                    }
                }
            }
            if (pick == NONE || pairs > MOST_FEW) {
                return;
            }
            for (int other = 0; other < halves && pairs + useful / 2 > best; other++) {
                if (hasBit(friends[pick] & free, other)) {
                    addPair(free & ~(1 << pick) & ~(1 << other), pairs + 1, halves);
                }
            }
        }
    }

    /** Images of graphs. */
    static final class Picture {
        final int[] bytes = new int[2 * MOST_LINES + 3];
        int length = 0;
        final Graph draft = new Graph();

        void write(Graph graph) {
            length = 0;
            add(graph.nodes);
            add(graph.lines);
            for (int line = 0; line < graph.lines; line++) {
                add(graph.low[line]);
                add(graph.high[line]);
            }
            add(checkOf(bytes, length));
        }

        private void add(int number) {
            if (length < bytes.length) {
                bytes[length] = number;
                length++;
            }
        }

        private static int checkOf(int[] row, int count) {
            int check = 167;
            for (int i = 0; i < count && i < row.length; i++) {
                check = (3 * check + row[i]) % 251;
            }
            return check;
        }

        /** Whether the tape is an image; the draft is what it tells then. */
        boolean read(Tape tape) {
            int nodes = tape.byteAt(0);
            int lines = tape.byteAt(1);
            if (nodes < 1 || nodes > MOST_NODES || lines < 0 || lines > MOST_LINES
                || tape.length != 2 * lines + 3) {
                return false;
            }
            if (tape.byteAt(tape.length - 1) != checkOf(tape.bytes, tape.length - 1)) {
                return false;
            }
            draft.wipe();
            for (int node = 0; node < nodes; node++) {
                draft.addNode(0);
            }
            for (int line = 0; line < lines; line++) {
                int one = tape.byteAt(2 * line + 2);
                int other = tape.byteAt(2 * line + 3);
                if (one >= other || !draft.canJoin(one, other)) {
                    return false;
                }
                draft.addLine(one, other, 1);
            }
            return true;
        }
    }
}
