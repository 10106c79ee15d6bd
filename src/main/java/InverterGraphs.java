import java.util.Arrays;

/**
 * Graphs of ands and turns: equal nodes are one, a node can be replaced by another one wherever it
 * stands, ands that nobody uses can be swept away, sixty-four rows are worked out at once, and the
 * latest changes can be taken back.
 */
public final class InverterGraphs {
    public static final int NONE = -1;

    private static final int MOST_NODES = 400;
    private static final int MOST_OUTPUTS = 40;
    private static final int MOST_OUTLETS = 20;
    private static final int MOST_CHANGES = 30;
    // Each and that gets new fanins owes them to a node that was replaced, and a node is replaced
    // once: no replacing can need more steps than pairs of nodes.
    private static final int MOST_STEPS = MOST_NODES * MOST_NODES;

    private static final int FALSE = 0;
    private static final int INPUT = 1;
    private static final int AND = 2;
    private static final int LATCH = 3;
    private static final int OUTLET = 4;
    private static final int GONE = 5;

    private static final int FALSE_LITERAL = 0;
    private static final int TRUE_LITERAL = 1;

    private final Graph graph;
    private final History history;
    private final Rows rows;
    private final Levels levels;
    private final Reach reach;

    public InverterGraphs() {
        graph = new Graph();
        history = new History();
        rows = new Rows();
        levels = new Levels();
        reach = new Reach();
    }

    public int input() throws UnsupportedOperationException {
        needRoomFor(1);
        startChange();
        return literalOf(graph.addNode(INPUT));
    }

    public int and(int a, int b)
            throws IndexOutOfBoundsException, IllegalArgumentException, UnsupportedOperationException {
        needLiteral(a);
        needLiteral(b);
        needStanding(nodeOf(a));
        needStanding(nodeOf(b));
        int known = graph.knownAnd(a, b, NONE);
        if (known != NONE) {
            return known;
        }
        needRoomFor(1);
        startChange();
        int made = graph.addNode(AND);
        graph.giveFanins(made, a, b);
        return literalOf(made);
    }

    public int output(int literal)
            throws IndexOutOfBoundsException, IllegalArgumentException, UnsupportedOperationException {
        needLiteral(literal);
        needStanding(nodeOf(literal));
        if (graph.outputsGiven() >= MOST_OUTPUTS) {
            throw new UnsupportedOperationException("there are 40 outputs");
        }
        startChange();
        return graph.addOutput(literal);
    }

    public int outputAt(int k) throws IndexOutOfBoundsException {
        if (k < 0 || k >= graph.outputsGiven()) {
            throw new IndexOutOfBoundsException("there never was such an output");
        }
        return graph.isBoxed(k) ? NONE : graph.outputLiteral(k);
    }

    public int latch(int start) throws IllegalArgumentException, UnsupportedOperationException {
        if (start != 0 && start != 1) {
            throw new IllegalArgumentException("a latch starts with 0 or 1");
        }
        needRoomFor(1);
        startChange();
        // What it starts with is not kept: no call answers it, and rows don't depend on it.
        int made = graph.addNode(LATCH);
        graph.giveNext(made, FALSE_LITERAL);
        return literalOf(made);
    }

    public boolean next(int latch, int literal) throws IndexOutOfBoundsException, IllegalArgumentException {
        needLiteral(latch);
        needLiteral(literal);
        needLatch(nodeOf(latch));
        needStanding(nodeOf(literal));
        if (graph.nextLiteral(nodeOf(latch)) == literal) {
            return false;
        }
        startChange();
        graph.giveNext(nodeOf(latch), literal);
        return true;
    }

    public int nextOf(int latch) throws IndexOutOfBoundsException, IllegalArgumentException {
        needLiteral(latch);
        needLatch(nodeOf(latch));
        return graph.nextLiteral(nodeOf(latch));
    }

    public int box(int inputs, int outputs) throws IllegalArgumentException, UnsupportedOperationException {
        if (inputs < 0 || inputs > graph.outputsToBox()) {
            throw new IllegalArgumentException("there are not so many outputs to go into the box");
        }
        if (outputs < 1 || outputs > MOST_OUTLETS) {
            throw new IllegalArgumentException("a box has 1 to 20 outlets");
        }
        needRoomFor(outputs);
        startChange();
        graph.boxLatest(inputs);
        int first = graph.addNode(OUTLET);
        for (int more = 1; more < outputs; more++) {
            graph.addNode(OUTLET);
        }
        return literalOf(first);
    }

    public int replace(int node, int literal) throws IndexOutOfBoundsException, IllegalArgumentException {
        needNode(node);
        needLiteral(literal);
        if (graph.sortOf(node) != INPUT && graph.sortOf(node) != AND) {
            throw new IllegalArgumentException("only an input or an and is replaced");
        }
        needStanding(nodeOf(literal));
        if (reach.isAtOrAbove(graph, nodeOf(literal), node)) {
            return 1;
        }
        startChange();
        graph.replaceEverywhere(node, literal);
        return 0;
    }

    public int sweep() {
        reach.spreadFromUsers(graph);
        int unused = 0;
        for (int node = 0; node < graph.nodesGiven(); node++) {
            unused += isUnusedAnd(node) ? 1 : 0;
        }
        if (unused == 0) {
            return 0;
        }
        startChange();
        for (int node = 0; node < graph.nodesGiven(); node++) {
            if (isUnusedAnd(node)) {
                graph.makeGone(node, NONE);
            }
        }
        return unused;
    }

    public boolean undo() {
        if (!history.takeBack(graph)) {
            return false;
        }
        rows.forget();
        return true;
    }

    public int simulate(long seed) {
        rows.workOut(graph, seed);
        return graph.nodesGiven() - graph.howMany(GONE);
    }

    public long row(int node)
            throws IndexOutOfBoundsException, IllegalStateException, IllegalArgumentException {
        needNode(node);
        if (!rows.areWorkedOut()) {
            throw new IllegalStateException("no rows are worked out");
        }
        needStanding(node);
        return rows.at(node);
    }

    public int level(int node) throws IndexOutOfBoundsException, IllegalArgumentException {
        needNode(node);
        needStanding(node);
        levels.workOut(graph);
        return levels.at(node);
    }

    public int fan(int node) throws IndexOutOfBoundsException, IllegalArgumentException {
        needNode(node);
        needStanding(node);
        return graph.usesOf(node);
    }

    public int node(int node, int what) throws IndexOutOfBoundsException, IllegalArgumentException {
        needNode(node);
        switch (what) {
            case 0:
                return graph.sortOf(node);
            case 1:
                return graph.lesserFanin(node);
            case 2:
                return graph.greaterFanin(node);
            case 3:
                return graph.standInOf(node);
            default:
                throw new IllegalArgumentException("of a node there are 0 to 3");
        }
    }

    public int size() {
        return graph.howMany(AND);
    }

    public int count(int what) throws IllegalArgumentException {
        switch (what) {
            case 0:
                return graph.nodesGiven();
            case 1:
                return graph.howMany(INPUT);
            case 2:
                return graph.outputsGiven();
            case 3:
                return graph.howMany(LATCH);
            case 4:
                return history.changesKept();
            case 5:
                levels.workOut(graph);
                return levels.greatest();
            default:
                throw new IllegalArgumentException("counted are 0 to 5");
        }
    }

    /** Must come before the first thing that a change alters: it keeps what stood until then. */
    private void startChange() {
        history.keep(graph);
        rows.forget();
    }

    private boolean isUnusedAnd(int node) {
        return graph.sortOf(node) == AND && !reach.has(node);
    }

    private void needNode(int node) {
        if (node < 0 || node >= graph.nodesGiven()) {
            throw new IndexOutOfBoundsException("there never was such a node");
        }
    }

    private void needLiteral(int literal) {
        if (literal < 0 || nodeOf(literal) >= graph.nodesGiven()) {
            throw new IndexOutOfBoundsException("there never was a node of this literal");
        }
    }

    private void needStanding(int node) {
        if (graph.sortOf(node) == GONE) {
            throw new IllegalArgumentException("the node is gone");
        }
    }

    private void needLatch(int node) {
        if (graph.sortOf(node) != LATCH) {
            throw new IllegalArgumentException("it is no latch");
        }
    }

    private void needRoomFor(int more) {
        if (graph.nodesGiven() + more > MOST_NODES) {
            throw new UnsupportedOperationException("there would be more than 400 nodes");
        }
    }

    private static int nodeOf(int literal) {
        return literal >> 1;
    }

    private static int literalOf(int node) {
        return node << 1;
    }

    private static boolean isTurned(int literal) {
        return (literal & 1) == 1;
    }

    private static int turned(int literal) {
        return literal ^ 1;
    }

    /** A row of numbers that looks at each place before it is used; elsewhere is NONE. */
    private static final class Cells {
        private final int[] cells;

        Cells(int length) {
            cells = new int[length < 0 ? 0 : length];
        }

        int at(int place) {
            return place >= 0 && place < cells.length ? cells[place] : NONE;
        }

        void put(int place, int value) {
            if (place >= 0 && place < cells.length) {
                cells[place] = value;
            }
        }

        void fill(int value) {
            Arrays.fill(cells, value);
        }

        void copyFrom(Cells other) {
            System.arraycopy(other.cells, 0, cells, 0, Math.min(cells.length, other.cells.length));
        }
    }

    /** The nodes and the outputs: all that a change alters, and that undo brings back. */
    private static final class Graph {
        private final Cells sorts;
        private final Cells lessers;
        private final Cells greaters;
        private final Cells nexts;
        private final Cells standIns;
        private final Cells outputs;
        private final Cells boxed;
        private int nodes;
        private int outputsMade;
        private int outputsUpToBoxed;

        Graph() {
            sorts = new Cells(MOST_NODES);
            lessers = new Cells(MOST_NODES);
            greaters = new Cells(MOST_NODES);
            nexts = new Cells(MOST_NODES);
            standIns = new Cells(MOST_NODES);
            outputs = new Cells(MOST_OUTPUTS);
            boxed = new Cells(MOST_OUTPUTS);
            addNode(FALSE);
        }

        void copyFrom(Graph other) {
            sorts.copyFrom(other.sorts);
            lessers.copyFrom(other.lessers);
            greaters.copyFrom(other.greaters);
            nexts.copyFrom(other.nexts);
            standIns.copyFrom(other.standIns);
            outputs.copyFrom(other.outputs);
            boxed.copyFrom(other.boxed);
            nodes = other.nodes;
            outputsMade = other.outputsMade;
            outputsUpToBoxed = other.outputsUpToBoxed;
        }

        int nodesGiven() {
            return nodes;
        }

        int sortOf(int node) {
            return sorts.at(node);
        }

        int lesserFanin(int node) {
            return lessers.at(node);
        }

        int greaterFanin(int node) {
            return greaters.at(node);
        }

        int nextLiteral(int latch) {
            return nexts.at(latch);
        }

        int standInOf(int node) {
            return standIns.at(node);
        }

        int howMany(int sort) {
            int found = 0;
            for (int node = 0; node < nodes; node++) {
                found += sorts.at(node) == sort ? 1 : 0;
            }
            return found;
        }

        int addNode(int sort) {
            int made = nodes;
            sorts.put(made, sort);
            lessers.put(made, NONE);
            greaters.put(made, NONE);
            nexts.put(made, NONE);
            standIns.put(made, NONE);
            nodes++;
            return made;
        }

        void giveFanins(int and, int a, int b) {
            lessers.put(and, Math.min(a, b));
            greaters.put(and, Math.max(a, b));
        }

        void giveNext(int latch, int literal) {
            nexts.put(latch, literal);
        }

        /** A node that is swept away has NONE that stands for it. */
        void makeGone(int node, int standIn) {
            sorts.put(node, GONE);
            lessers.put(node, NONE);
            greaters.put(node, NONE);
            standIns.put(node, standIn);
        }

        int outputsGiven() {
            return outputsMade;
        }

        /** With boxes, too: what goes into them stays in its output's place. */
        int outputLiteral(int k) {
            return outputs.at(k);
        }

        boolean isBoxed(int k) {
            return boxed.at(k) == 1;
        }

        int addOutput(int literal) {
            int made = outputsMade;
            outputs.put(made, literal);
            boxed.put(made, 0);
            outputsMade++;
            return made;
        }

        int outputsToBox() {
            return outputsMade - outputsUpToBoxed;
        }

        void boxLatest(int inputs) {
            for (int k = outputsMade - inputs; k < outputsMade; k++) {
                boxed.put(k, 1);
            }
            // A box without inputs bars nothing: no output went into it.
            if (inputs > 0) {
                outputsUpToBoxed = outputsMade;
            }
        }

        int usesOf(int node) {
            int uses = 0;
            for (int user = 0; user < nodes; user++) {
                uses += nodeOf(lessers.at(user)) == node ? 1 : 0;
                uses += nodeOf(greaters.at(user)) == node ? 1 : 0;
                uses += nodeOf(nexts.at(user)) == node ? 1 : 0;
            }
            for (int k = 0; k < outputsMade; k++) {
                uses += nodeOf(outputs.at(k)) == node ? 1 : 0;
            }
            return uses;
        }

        /** What an and would be, with one and left out of the search; NONE if it would be new. */
        int knownAnd(int a, int b, int leftOut) {
            if (a == b) {
                return a;
            }
            if (a == turned(b) || a == FALSE_LITERAL || b == FALSE_LITERAL) {
                return FALSE_LITERAL;
            }
            if (a == TRUE_LITERAL) {
                return b;
            }
            if (b == TRUE_LITERAL) {
                return a;
            }
            return standingAnd(Math.min(a, b), Math.max(a, b), leftOut);
        }

        private int standingAnd(int lesser, int greater, int leftOut) {
            for (int node = 0; node < nodes; node++) {
                if (lessers.at(node) == lesser && greaters.at(node) == greater && node != leftOut) {
                    return literalOf(node);
                }
            }
            return NONE;
        }

        void replaceEverywhere(int node, int literal) {
            makeGone(node, literal);
            int and = leastOutdated(0);
            for (int step = 0; step < MOST_STEPS && and != NONE; step++) {
                // One that is replaced may stand in ands of lesser numbers, too.
                and = leastOutdated(renew(and) ? and + 1 : 0);
            }
            for (int k = 0; k < outputsMade; k++) {
                outputs.put(k, standing(outputs.at(k)));
            }
            for (int latch = 0; latch < nodes; latch++) {
                nexts.put(latch, standing(nexts.at(latch)));
            }
        }

        /** The first and, from a number on, that has a fanin of a node that was replaced. */
        private int leastOutdated(int from) {
            for (int node = from; node < nodes; node++) {
                if (isReplaced(lessers.at(node)) || isReplaced(greaters.at(node))) {
                    return node;
                }
            }
            return NONE;
        }

        private boolean isReplaced(int literal) {
            return standIns.at(nodeOf(literal)) != NONE;
        }

        /** Gives an and what stands for its fanins: whether it stays. */
        private boolean renew(int and) {
            int a = standing(lessers.at(and));
            int b = standing(greaters.at(and));
            int known = knownAnd(a, b, and);
            if (known != NONE) {
                makeGone(and, known);
                return false;
            }
            giveFanins(and, a, b);
            return true;
        }

        /** What stands for a literal in the end; the literal itself if its node stands. */
        private int standing(int literal) {
            int now = literal;
            for (int step = 0; step < MOST_NODES && isReplaced(now); step++) {
                int standIn = standIns.at(nodeOf(now));
                now = isTurned(now) ? turned(standIn) : standIn;
            }
            return now;
        }
    }

    /** What stood before each of the latest changes, in a ring: the eldest one is written over. */
    private static final class History {
        private final Graph[] ring;
        private int place;
        private int kept;

        History() {
            ring = new Graph[MOST_CHANGES];
        }

        int changesKept() {
            return kept;
        }

        void keep(Graph graph) {
            if (place < 0 || place >= ring.length) {
                return;
            }
            // Made when first needed and then used again, so that a short run stays small.
            Graph copy = ring[place];
            if (copy == null) {
                copy = new Graph();
                ring[place] = copy;
            }
            copy.copyFrom(graph);
            place = place + 1 < ring.length ? place + 1 : 0;
            kept = Math.min(kept + 1, ring.length);
        }

        boolean takeBack(Graph graph) {
            int latest = place > 0 ? place - 1 : ring.length - 1;
            if (kept == 0 || latest < 0 || latest >= ring.length) {
                return false;
            }
            Graph copy = ring[latest];
            if (copy == null) {
                return false;
            }
            graph.copyFrom(copy);
            place = latest;
            kept--;
            return true;
        }
    }

    /** Which nodes some literals reach: their nodes, and all that these stand above. */
    private static final class Reach {
        private final Cells marks;
        private final Cells waiting;
        private int waits;

        Reach() {
            marks = new Cells(MOST_NODES);
            waiting = new Cells(MOST_NODES);
        }

        boolean has(int node) {
            return marks.at(node) == 1;
        }

        boolean isAtOrAbove(Graph graph, int upper, int lower) {
            clear();
            mark(upper);
            spread(graph);
            return has(lower);
        }

        /** From all that outputs, latches and boxes have. */
        void spreadFromUsers(Graph graph) {
            clear();
            for (int k = 0; k < graph.outputsGiven(); k++) {
                mark(nodeOf(graph.outputLiteral(k)));
            }
            for (int latch = 0; latch < graph.nodesGiven(); latch++) {
                mark(nodeOf(graph.nextLiteral(latch)));
            }
            spread(graph);
        }

        private void clear() {
            marks.fill(0);
            waits = 0;
        }

        private void mark(int node) {
            if (marks.at(node) == 0) {
                marks.put(node, 1);
                waiting.put(waits, node);
                waits++;
            }
        }

        private void spread(Graph graph) {
            // A node waits once at most, as it is marked from then on.
            for (int step = 0; step < MOST_NODES && waits > 0; step++) {
                waits--;
                int node = waiting.at(waits);
                mark(nodeOf(graph.lesserFanin(node)));
                mark(nodeOf(graph.greaterFanin(node)));
            }
        }
    }

    /** The levels of all nodes. After replacing an and may stand above one of a greater number. */
    private static final class Levels {
        private final Cells levels;

        Levels() {
            levels = new Cells(MOST_NODES);
        }

        int at(int node) {
            return levels.at(node);
        }

        int greatest() {
            int most = 0;
            for (int node = 0; node < MOST_NODES; node++) {
                most = Math.max(most, levels.at(node));
            }
            return most;
        }

        /** Each pass settles one level more, at least, so there are fewer passes than nodes. */
        void workOut(Graph graph) {
            levels.fill(0);
            boolean rising = true;
            for (int pass = 0; pass < MOST_NODES && rising; pass++) {
                rising = raise(graph);
            }
        }

        private boolean raise(Graph graph) {
            boolean raised = false;
            for (int node = 0; node < graph.nodesGiven(); node++) {
                if (graph.sortOf(node) == AND) {
                    int lesser = levels.at(nodeOf(graph.lesserFanin(node)));
                    int greater = levels.at(nodeOf(graph.greaterFanin(node)));
                    int due = 1 + Math.max(lesser, greater);
                    raised = raised || levels.at(node) != due;
                    levels.put(node, due);
                }
            }
            return raised;
        }
    }

    /** The sixty-four rows, a bit each, of all nodes. */
    private static final class Rows {
        private final long[] rows;
        private boolean workedOut;

        Rows() {
            rows = new long[MOST_NODES];
        }

        boolean areWorkedOut() {
            return workedOut;
        }

        void forget() {
            workedOut = false;
        }

        long at(int node) {
            return node >= 0 && node < rows.length ? rows[node] : 0L;
        }

        /** Each pass settles one level more, at least, so there are fewer passes than nodes. */
        void workOut(Graph graph, long seed) {
            Arrays.fill(rows, 0L);
            mixSources(graph, seed);
            boolean moving = true;
            for (int pass = 0; pass < MOST_NODES && moving; pass++) {
                moving = passAnds(graph);
            }
            workedOut = true;
        }

        private void put(int node, long bits) {
            if (node >= 0 && node < rows.length) {
                rows[node] = bits;
            }
        }

        private void mixSources(Graph graph, long seed) {
            int k = 0;
            for (int node = 0; node < graph.nodesGiven(); node++) {
                int sort = graph.sortOf(node);
                if (sort == INPUT || sort == LATCH || sort == OUTLET) {
                    put(node, mix(seed, k));
                    k++;
                }
            }
        }

        private boolean passAnds(Graph graph) {
            boolean moved = false;
            for (int node = 0; node < graph.nodesGiven(); node++) {
                if (graph.sortOf(node) == AND) {
                    long due = bitsOf(graph.lesserFanin(node)) & bitsOf(graph.greaterFanin(node));
                    moved = moved || at(node) != due;
                    put(node, due);
                }
            }
            return moved;
        }

        private long bitsOf(int literal) {
            long bits = at(nodeOf(literal));
            return isTurned(literal) ? ~bits : bits;
        }

        private static long mix(long seed, int k) {
            long z = seed + (k + 1) * 0x9E3779B97F4A7C15L;
            z = (z ^ (z >>> 30)) * 0xBF58476D1CE4E5B9L;
            z = (z ^ (z >>> 27)) * 0x94D049BB133111EBL;
            return z ^ (z >>> 31);
        }
    }
}
