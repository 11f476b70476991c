import java.util.function.Function;

/** Promises 16 to 24: a test for each sentence that names a boundary case; the sentence stands above it. */
public final class GraphEdgesTest {
    private static final int LEAST = Integer.MIN_VALUE;
    private static final int GREATEST = Integer.MAX_VALUE;
    private static final int[] NO_NODES = {LEAST, -8, -1, 8, 9, 31, 32, GREATEST};
    private static final int NODES_MOST = 8;

    private static final Checks checks = new Checks();
    private static final Twins twins = new Twins(checks);

    public static void main(String[] args) {
        nodeWhenThereAreEight();
        nodeBringsTilesHome();
        joinSoAlready();
        joinOfOne();
        joinNoSuchNode();
        tileNoSuchNode();
        shiftOfTheGap();
        shiftNotJoined();
        shiftNoSuchNode();
        swapWhetherJoinedOrNot();
        swapOfOne();
        swapNoSuchNode();
        evenWithoutNodesOrLines();
        evenRings();
        parityWithoutNodes();
        parityOfAnUnevenGraph();
        parityAtTheLeastNode();
        parityNeverChangesByShifts();
        waysWithoutNodes();
        waysOfThePresentOneAlone();
        waysOfAll();
        homeWithoutNodes();
        homeAlready();
        homeOutOfReach();
        questionsDoNothing();
        checks.end();
    }

    /** The numbers 0, 1, 1, 2, 2, .. that join nodes in a row, and a line back to the first for a ring. */
    private static int[] path(int nodes, boolean ring) {
        int lines = ring ? nodes : nodes - 1;
        int[] ends = new int[Math.max(0, 2 * lines)];
        for (int line = 0; line < lines; line++) {
            ends[2 * line] = line;
            ends[2 * line + 1] = (line + 1) % nodes;
        }
        return ends;
    }

    /** Every node joined to every other. */
    private static SlideBoards complete(int nodes) {
        SlideBoards boards = Builders.graphOf(nodes);
        for (int a = 0; a < nodes; a++) {
            for (int b = 0; b < a; b++) {
                boards.join(a, b);
            }
        }
        return boards;
    }

    /** A call with a node's number: throws when there is no such one, with nodes or without, and does nothing. */
    private static void noSuchNode(String what, NodeCall call) {
        for (int node : NO_NODES) {
            twins.noTraceAnywhere(what + " " + node, boards -> call.answer(boards, node), Twins.NO_INDEX);
        }
        for (int nodes = 0; nodes <= NODES_MOST; nodes++) {
            for (int node = -1; node <= nodes; node++) {
                SlideBoards boards = Builders.graphOf(nodes);
                int asked = node;
                checks.same(what + " " + node + " of " + nodes + " throws",
                        Checks.outcomeOf(() -> call.answer(boards, asked)).equals(Twins.NO_INDEX),
                        node < 0 || node == nodes);
            }
        }
        twins.noTrace(what + " the next node", Builders::busy, boards -> call.answer(boards, 5), Twins.NO_INDEX);
    }

    private interface NodeCall {
        Object answer(SlideBoards boards, int node);
    }

    /** node: "its number; -1 when there are 8" */
    private static void nodeWhenThereAreEight() {
        SlideBoards boards = new SlideBoards(1, 1);
        for (int node = 0; node < NODES_MOST; node++) {
            int next = node;
            checks.noSuchIndex("not yet node " + node, () -> boards.tile(next));
            checks.same("node", boards.node(), node);
            checks.same("with its tile", boards.tile(node), node);
        }
        checks.same("a ninth node", boards.node(), -1);
        checks.same("a ninth node again", boards.node(), -1);
        checks.noSuchIndex("there is no ninth node", () -> boards.tile(8));
        twins.noTrace("a ninth node leaves tiles and lines", Builders::full, full -> full.node(), -1);
    }

    /** node: "All tiles are at their own nodes again." */
    private static void nodeBringsTilesHome() {
        for (int nodes = 1; nodes < NODES_MOST; nodes++) {
            SlideBoards boards = Builders.graphOf(nodes, path(nodes, false));
            for (int node = 1; node < nodes; node++) {
                boards.shift(node);
            }
            checks.same("the gap is at the end", boards.tile(nodes - 1), 0);
            checks.same("node", boards.node(), nodes);
            checks.same("tiles", Builders.tilesOf(boards, nodes + 1), "01234567".substring(0, nodes + 1));
            checks.same("lines stay", boards.ways(), nodes);
        }
    }

    /** join: "false when they are so already" */
    private static void joinSoAlready() {
        for (int a = 0; a < NODES_MOST; a++) {
            for (int b = 0; b < NODES_MOST; b++) {
                SlideBoards boards = Builders.graphOf(NODES_MOST);
                if (a != b) {
                    checks.same("join", boards.join(a, b), true);
                    checks.same("again", boards.join(a, b), false);
                    checks.same("the other way round", boards.join(b, a), false);
                }
            }
        }
        twins.noTrace("joined already", Builders::busy, boards -> boards.join(3, 4), false);
        twins.noTrace("joined already the other way round", Builders::busy, boards -> boards.join(0, 3), false);
    }

    /** join: "false when they [..] are one" */
    private static void joinOfOne() {
        for (int node = 0; node < 5; node++) {
            int one = node;
            twins.noTrace("node " + node + " with itself", Builders::busy, boards -> boards.join(one, one), false);
        }
        SlideBoards boards = Builders.graphOf(1);
        checks.same("the one node there is", boards.join(0, 0), false);
        checks.same("no line to itself", boards.even(), true);
        checks.same("no shift to itself", boards.shift(0), false);
    }

    /** join: "ArrayIndexOutOfBoundsException: there is no such node." */
    private static void joinNoSuchNode() {
        noSuchNode("join with first", (boards, node) -> boards.join(node, 0));
        noSuchNode("join with itself", (boards, node) -> boards.join(node, node));
        for (int node : NO_NODES) {
            twins.noTrace("join with second " + node, Builders::busy, boards -> boards.join(0, node), Twins.NO_INDEX);
            twins.noTrace("join with second " + node, Builders::full, boards -> boards.join(7, node), Twins.NO_INDEX);
        }
    }

    /** tile: "ArrayIndexOutOfBoundsException: there is no such node." */
    private static void tileNoSuchNode() {
        noSuchNode("tile", (boards, node) -> boards.tile(node));
    }

    /** shift: "false, doing nothing, when the node is THE GAP's" */
    private static void shiftOfTheGap() {
        twins.noTrace("the gap's node", Builders::busy, boards -> boards.shift(1), false);
        twins.noTrace("the gap's node", Builders::full, boards -> boards.shift(1), false);
        for (int gap = 0; gap < NODES_MOST; gap++) {
            SlideBoards boards = complete(NODES_MOST);
            boards.swap(0, gap);
            String before = Builders.tilesOf(boards, NODES_MOST);
            checks.same("the gap at " + gap, boards.shift(gap), false);
            checks.same("stays", Builders.tilesOf(boards, NODES_MOST), before);
        }
        checks.same("the gap alone", Builders.graphOf(1).shift(0), false);
    }

    /** shift: "false, doing nothing, when the node is [..] not joined to it" */
    private static void shiftNotJoined() {
        twins.noTrace("joined to others alone", Builders::busy, boards -> boards.shift(4), false);
        twins.noTrace("two lines off", Builders::busy, boards -> boards.shift(3), false);
        twins.noTrace("far off", Builders::full, boards -> boards.shift(7), false);
        for (int gap = 0; gap < NODES_MOST; gap++) {
            for (int node = 0; node < NODES_MOST; node++) {
                SlideBoards boards = Builders.graphOf(NODES_MOST, path(NODES_MOST, false));
                boards.swap(0, gap);
                int tile = boards.tile(node);
                boolean isNext = Math.abs(gap - node) == 1;
                checks.same("shift from " + node + " to " + gap, boards.shift(node), isNext);
                checks.same("the gap", boards.tile(isNext ? node : gap), 0);
                checks.same("the tile", boards.tile(isNext ? gap : node), tile);
            }
        }
    }

    /** shift: "ArrayIndexOutOfBoundsException: there is no such node." */
    private static void shiftNoSuchNode() {
        noSuchNode("shift", (boards, node) -> boards.shift(node));
    }

    /** swap: "change places, whether joined or not" */
    private static void swapWhetherJoinedOrNot() {
        for (SlideBoards boards : new SlideBoards[] {Builders.graphOf(3), complete(3)}) {
            checks.same("with the gap", boards.swap(0, 2), true);
            checks.same("tiles", Builders.tilesOf(boards, 3), "210");
            checks.same("without the gap", boards.swap(1, 0), true);
            checks.same("tiles", Builders.tilesOf(boards, 3), "120");
        }
    }

    /** swap: "false when they are one" */
    private static void swapOfOne() {
        for (int node = 0; node < 5; node++) {
            int one = node;
            twins.noTrace("swap " + node + " with itself", Builders::busy, boards -> boards.swap(one, one), false);
        }
        checks.same("the one node there is", Builders.graphOf(1).swap(0, 0), false);
    }

    /** swap: "ArrayIndexOutOfBoundsException: there is no such node." */
    private static void swapNoSuchNode() {
        noSuchNode("swap with first", (boards, node) -> boards.swap(node, 0));
        noSuchNode("swap with itself", (boards, node) -> boards.swap(node, node));
        for (int node : NO_NODES) {
            twins.noTrace("swap with second " + node, Builders::busy, boards -> boards.swap(0, node), Twins.NO_INDEX);
            twins.noTrace("swap with second " + node, Builders::full, boards -> boards.swap(7, node), Twins.NO_INDEX);
        }
    }

    /** even: without nodes, or without lines, no line joins alike ones. */
    private static void evenWithoutNodesOrLines() {
        for (int nodes = 0; nodes <= NODES_MOST; nodes++) {
            checks.same(nodes + " nodes without lines", Builders.graphOf(nodes).even(), true);
            checks.same(nodes + " nodes in a row", Builders.graphOf(nodes, path(nodes, false)).even(), true);
        }
    }

    /** even: a ring has two colours when its lines are even in number. */
    private static void evenRings() {
        for (int nodes = 3; nodes <= NODES_MOST; nodes++) {
            checks.same("ring of " + nodes, Builders.graphOf(nodes, path(nodes, true)).even(), nodes % 2 == 0);
            SlideBoards across = Builders.graphOf(nodes, path(nodes, true));
            across.join(0, 2);
            checks.same("ring with a line across " + nodes, across.even(), false);
        }
        checks.same("three nodes, the last ones of eight", Builders.graphOf(8, 5, 6, 6, 7, 7, 5).even(), false);
    }

    /** parity: "-1 when [..] there is no node" */
    private static void parityWithoutNodes() {
        checks.same("no node", Builders.graphOf(0).parity(), -1);
        for (int nodes = 1; nodes <= NODES_MOST; nodes++) {
            checks.same("tiles at home", Builders.graphOf(nodes).parity(), 0);
            checks.same("tiles at home in a row", Builders.graphOf(nodes, path(nodes, false)).parity(), 0);
        }
    }

    /** parity: "-1 when even() is false", also where the gap never comes to the lines that make it so. */
    private static void parityOfAnUnevenGraph() {
        checks.same("three in a ring", Builders.graphOf(3, path(3, true)).parity(), -1);
        SlideBoards apart = Builders.graphOf(5, 0, 1, 2, 3, 3, 4);
        checks.same("in two parts", apart.parity(), 0);
        apart.join(4, 2);
        checks.same("the other part is a ring of three", apart.parity(), -1);
        apart.shift(1);
        checks.same("and is so behind a shift", apart.parity(), -1);
    }

    /** parity: "(0 when it is that itself)" */
    private static void parityAtTheLeastNode() {
        SlideBoards alone = Builders.graphOf(3, 0, 1);
        alone.swap(0, 2);
        checks.same("alone at node 2, three pairs", alone.parity(), 1);
        alone.swap(0, 1);
        checks.same("alone at node 2, two pairs", alone.parity(), 0);
        SlideBoards part = Builders.graphOf(4, 2, 3);
        part.swap(0, 2);
        checks.same("tiles 2103, three pairs and no line", part.parity(), 1);
        part.shift(3);
        checks.same("tiles 2130, four pairs and one line", part.parity(), 1);
        SlideBoards next = Builders.graphOf(3, 0, 2);
        next.shift(2);
        checks.same("tiles 210, three pairs and one line", next.parity(), 0);
        SlideBoards shortest = Builders.graphOf(6, 0, 1, 1, 2, 2, 3, 3, 4, 4, 5, 5, 0);
        shortest.shift(5);
        checks.same("tiles 512340, nine pairs and one line", shortest.parity(), 0);
    }

    /** parity: "What never changes by shifts" */
    private static void parityNeverChangesByShifts() {
        for (int nodes = 2; nodes <= NODES_MOST; nodes += 2) {
            for (int swapped = 0; swapped < 2; swapped++) {
                SlideBoards boards = Builders.graphOf(nodes, path(nodes, nodes > 2));
                if (swapped == 1) {
                    boards.swap(nodes / 2 - 1, nodes - 1);
                }
                int parity = boards.parity();
                for (int n = 0; n < 3 * nodes; n++) {
                    boards.shift(n % nodes);
                    checks.same("parity behind a shift", boards.parity(), parity);
                }
            }
        }
    }

    /** ways: "0 without nodes" */
    private static void waysWithoutNodes() {
        checks.same("no nodes", Builders.graphOf(0).ways(), 0);
        checks.same("no nodes on a busy board", Builders.boardOf("a.b").ways(), 0);
    }

    /** ways: "this one, too" */
    private static void waysOfThePresentOneAlone() {
        for (int nodes = 1; nodes <= NODES_MOST; nodes++) {
            checks.same(nodes + " nodes without lines", Builders.graphOf(nodes).ways(), 1);
            checks.same(nodes + " nodes in a row", Builders.graphOf(nodes, path(nodes, false)).ways(), nodes);
        }
        SlideBoards apart = Builders.graphOf(4, 1, 2, 2, 3, 3, 1);
        checks.same("the gap apart from all lines", apart.ways(), 1);
        apart.swap(0, 1);
        checks.same("the gap among them", apart.ways(), 6);
    }

    /** ways: with all lines all ways in which tiles can lie, up to 8 nodes. */
    private static void waysOfAll() {
        int factorial = 2;
        for (int nodes = 3; nodes <= NODES_MOST; nodes++) {
            factorial *= nodes;
            checks.same("all ways of " + nodes, complete(nodes).ways(), factorial);
            checks.same("ways round a ring of " + nodes,
                    Builders.graphOf(nodes, path(nodes, true)).ways(), nodes * (nodes - 1));
        }
    }

    /** home: without nodes each tile is at its own one. */
    private static void homeWithoutNodes() {
        checks.same("no nodes", Builders.graphOf(0).home(), true);
        checks.same("no nodes on a busy board", Builders.boardOf("a.b").home(), true);
    }

    /** home: where each tile is at its own node already no shift is needed. */
    private static void homeAlready() {
        for (int nodes = 1; nodes <= NODES_MOST; nodes++) {
            checks.same(nodes + " nodes without lines", Builders.graphOf(nodes).home(), true);
            checks.same("all lines of " + nodes, complete(nodes).home(), true);
            SlideBoards path = Builders.graphOf(nodes, path(nodes, false));
            for (int node = 1; node < nodes; node++) {
                path.shift(node);
            }
            checks.same("back along a row of " + nodes, path.home(), true);
        }
    }

    /** home: tiles that no shift can bring there. */
    private static void homeOutOfReach() {
        for (int nodes = 2; nodes <= NODES_MOST; nodes++) {
            SlideBoards loose = Builders.graphOf(nodes);
            loose.swap(nodes - 2, nodes - 1);
            checks.same("no lines of " + nodes, loose.home(), false);
            SlideBoards all = complete(nodes);
            all.swap(nodes - 2, nodes - 1);
            checks.same("all lines of " + nodes, all.home(), true);
            SlideBoards row = Builders.graphOf(nodes, path(nodes, false));
            row.swap(nodes - 2, nodes - 1);
            checks.same("row of " + nodes, row.home(), nodes == 2);
        }
        SlideBoards last = Builders.graphOf(8, 0, 1, 1, 2, 2, 3, 3, 4, 4, 5, 5, 6);
        last.swap(6, 7);
        checks.same("the last node has no line", last.home(), false);
    }

    /** Questions about tiles leave them where they are. */
    private static void questionsDoNothing() {
        asks("even", boards -> boards.even(), true, true, true);
        asks("parity", boards -> boards.parity(), -1, 1, 1);
        asks("ways", boards -> boards.ways(), 0, 15, 8);
        asks("home", boards -> boards.home(), true, false, false);
    }

    private static void asks(String what, Function<SlideBoards, Object> call, Object fresh, Object busy, Object full) {
        twins.noTrace(what + " of a new object", () -> new SlideBoards(3, 2), call, fresh);
        twins.noTrace(what + " of a busy one", Builders::busy, call, busy);
        twins.noTrace(what + " of a full one", Builders::full, call, full);
    }
}
