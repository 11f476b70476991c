/**
 * Sliding blocks of any shapes, alike ones of one kind; goals by blocks and by kinds; the fewest
 * moves by breadth, in two measures; how many states there are to come to; and tiles that are
 * shifted along the lines of a graph, with what never changes about them.
 */
public final class SlideBoards {
    private static final int SIDE_MOST = 5;
    private static final int BLOCKS_MOST = 8;
    private static final int KINDS = 26;
    private static final int WAYS = 4;
    private static final int GOALS_MOST = 6;
    private static final int STATES_MOST = 10000;
    private static final int NODES_MOST = 8;

    private static final int NONE = -1;
    private static final int REFUSED = -3;

    private final Board board;
    private final Goals goals;
    private final Finder finder;
    private final Route latest;
    private final TileGraph graph;

    public SlideBoards(int width, int height) {
        board = new Board(Math.max(1, Math.min(SIDE_MOST, width)), Math.max(1, Math.min(SIDE_MOST, height)));
        goals = new Goals();
        finder = new Finder(board, goals);
        latest = new Route();
        graph = new TileGraph();
    }

    public boolean wall(int x, int y, boolean on) throws ArrayIndexOutOfBoundsException {
        needCell(x, y);
        return board.setWall(board.bitOf(x, y), on);
    }

    public int block(int kind) throws IllegalArgumentException {
        needKind(kind);
        return board.addBlock(kind);
    }

    public boolean cell(int block, int x, int y) throws ArrayIndexOutOfBoundsException {
        needBlock(block);
        needCell(x, y);
        return board.addCell(block, board.bitOf(x, y));
    }

    public int place(int block) throws ArrayIndexOutOfBoundsException {
        needBlock(block);
        return Board.leastCell(board.masks[block]);
    }

    public int slide(int block, int way, int n) throws ArrayIndexOutOfBoundsException {
        needBlock(block);
        needWay(way);
        return board.slideBlock(block, way, n);
    }

    public int goal(int block, int x, int y) throws ArrayIndexOutOfBoundsException {
        needBlock(block);
        needCell(x, y);
        return goals.add(false, block, board.cellOf(x, y));
    }

    public int kindGoal(int kind, int x, int y) throws ArrayIndexOutOfBoundsException, IllegalArgumentException {
        needCell(x, y);
        needKind(kind);
        return goals.add(true, kind, board.cellOf(x, y));
    }

    public int noGoals() {
        return goals.removeAll();
    }

    public int open() {
        return finder.presentOpenGoal();
    }

    public int search(int measure, int most) {
        if (measure < 0 || measure > 1 || most < 1 || most > STATES_MOST) {
            return REFUSED;
        }
        int outcome = finder.explore(measure, most, true);
        latest.keep(finder.store, outcome == Finder.MET);
        return outcome == Finder.MET ? latest.length : outcome;
    }

    public int step(int k) {
        return k >= 0 && k < latest.length ? latest.moves[k] : NONE;
    }

    public int states() {
        return latest.states;
    }

    public int reach() {
        int outcome = finder.explore(0, STATES_MOST, false);
        return outcome == Finder.OVER ? outcome : finder.store.count;
    }

    public int picture(int i) {
        return i < 0 ? NONE : board.pictureByte(i);
    }

    public int node() {
        return graph.addNode();
    }

    public boolean join(int a, int b) throws ArrayIndexOutOfBoundsException {
        needNode(a);
        needNode(b);
        return graph.addLine(a, b);
    }

    public int tile(int node) throws ArrayIndexOutOfBoundsException {
        needNode(node);
        return graph.tiles[node];
    }

    public boolean shift(int node) throws ArrayIndexOutOfBoundsException {
        needNode(node);
        return graph.moveToGap(node);
    }

    public boolean swap(int a, int b) throws ArrayIndexOutOfBoundsException {
        needNode(a);
        needNode(b);
        return graph.exchange(a, b);
    }

    public boolean even() {
        return graph.hasTwoColours();
    }

    public int parity() {
        return graph.invariant();
    }

    public int ways() {
        return graph.countArrangements();
    }

    public boolean home() {
        return graph.comesHome();
    }

    private void needCell(int x, int y) {
        if (!board.hasCell(x, y)) {
            throw new ArrayIndexOutOfBoundsException("there is no such cell");
        }
    }

    private void needBlock(int block) {
        if (block < 0 || block >= board.blocks) {
            throw new ArrayIndexOutOfBoundsException("there is no such block");
        }
    }

    private static void needWay(int way) {
        if (way < 0 || way >= WAYS) {
            throw new ArrayIndexOutOfBoundsException("there is no such way");
        }
    }

    private static void needKind(int kind) {
        if (kind < 0 || kind >= KINDS) {
            throw new IllegalArgumentException("there is no such kind");
        }
    }

    private void needNode(int node) {
        if (node < 0 || node >= graph.nodes) {
            throw new ArrayIndexOutOfBoundsException("there is no such node");
        }
    }

    /** Walls and blocks. A set of cells is a mask: cell c is bit c, and 25 cells fit in an int. */
    private static final class Board {
        private final int width;
        private final int height;
        private final int leftEdge;
        private final int rightEdge;
        private final int topEdge;
        private final int bottomEdge;
        private final int[] kinds = new int[BLOCKS_MOST];
        private final int[] masks = new int[BLOCKS_MOST];
        private int blocks;
        private int walls;

        private Board(int width, int height) {
            this.width = width;
            this.height = height;
            int left = 0;
            for (int y = 0; y < height; y++) {
                left |= 1 << width * y;
            }
            leftEdge = left;
            rightEdge = left << width - 1;
            topEdge = (1 << width) - 1;
            bottomEdge = topEdge << width * (height - 1);
        }

        private boolean hasCell(int x, int y) {
            return x >= 0 && x < width && y >= 0 && y < height;
        }

        private int cellOf(int x, int y) {
            return width * y + x;
        }

        private int bitOf(int x, int y) {
            return 1 << cellOf(x, y);
        }

        private static int leastCell(int mask) {
            return mask == 0 ? NONE : Integer.bitCount((mask & -mask) - 1);
        }

        /** The cells of walls and of all blocks. */
        private int filled() {
            int cells = walls;
            for (int b = 0; b < blocks; b++) {
                cells |= masks[b];
            }
            return cells;
        }

        private boolean setWall(int bit, boolean on) {
            boolean isFree = (filled() & bit) == 0;
            boolean isWall = (walls & bit) != 0;
            if (on ? !isFree : !isWall) {
                return false;
            }
            walls ^= bit;
            return true;
        }

        private int addBlock(int kind) {
            if (blocks >= BLOCKS_MOST) {
                return NONE;
            }
            kinds[blocks] = kind;
            blocks++;
            return blocks - 1;
        }

        private boolean addCell(int block, int bit) {
            if ((filled() & bit) != 0) {
                return false;
            }
            masks[block] |= bit;
            return true;
        }

        private int slideBlock(int block, int way, int n) {
            int others = filled() & ~masks[block];
            int done = 0;
            while (done < n && done < SIDE_MOST) {
                int moved = moved(masks[block], way, others);
                if (moved == 0) {
                    break;
                }
                masks[block] = moved;
                done++;
            }
            return done;
        }

        /** A block's cells after a step; 0, which a block without cells stays at, when it may not be done. */
        private int moved(int mask, int way, int others) {
            int after;
            switch (way) {
                case 0:
                    after = (mask & rightEdge) != 0 ? 0 : mask << 1;
                    break;
                case 1:
                    after = (mask & bottomEdge) != 0 ? 0 : mask << width;
                    break;
                case 2:
                    after = (mask & leftEdge) != 0 ? 0 : mask >>> 1;
                    break;
                default:
                    after = (mask & topEdge) != 0 ? 0 : mask >>> width;
                    break;
            }
            return (after & others) != 0 ? 0 : after;
        }

        /** A block's cells pushed into the upper left corner, where blocks of one shape have the same ones. */
        private int cornered(int mask) {
            int cells = mask;
            for (int n = 0; n < SIDE_MOST && (cells & topEdge) == 0; n++) {
                cells >>>= width;
            }
            for (int n = 0; n < SIDE_MOST && (cells & leftEdge) == 0; n++) {
                cells >>>= 1;
            }
            return cells;
        }

        private boolean areAlike(int a, int b) {
            return kinds[a] == kinds[b] && cornered(masks[a]) == cornered(masks[b]);
        }

        private int pictureByte(int i) {
            int y = i / (width + 1);
            int x = i % (width + 1);
            if (y >= height) {
                return NONE;
            }
            return x == width ? 10 : cellByte(bitOf(x, y));
        }

        private int cellByte(int bit) {
            if ((walls & bit) != 0) {
                return '#';
            }
            for (int b = 0; b < blocks; b++) {
                if ((masks[b] & bit) != 0) {
                    return 'a' + kinds[b];
                }
            }
            return '.';
        }
    }

    /** Cells that blocks, or kinds of blocks, are to have as their places. */
    private static final class Goals {
        private final boolean[] ofKinds = new boolean[GOALS_MOST];
        private final int[] wanted = new int[GOALS_MOST];
        private final int[] cells = new int[GOALS_MOST];
        private int count;

        private int add(boolean ofKind, int blockOrKind, int cell) {
            if (count >= GOALS_MOST) {
                return NONE;
            }
            ofKinds[count] = ofKind;
            wanted[count] = blockOrKind;
            cells[count] = cell;
            count++;
            return count - 1;
        }

        private int removeAll() {
            int removed = count;
            count = 0;
            return removed;
        }

        /** The least goal that is not met when blocks are at these places. */
        private int firstOpen(Board board, int[] places) {
            for (int g = 0; g < count; g++) {
                boolean met = ofKinds[g]
                        ? kindIsAt(board, places, wanted[g], cells[g])
                        : places[wanted[g]] == cells[g];
                if (!met) {
                    return g;
                }
            }
            return NONE;
        }

        private static boolean kindIsAt(Board board, int[] places, int kind, int cell) {
            for (int b = 0; b < board.blocks; b++) {
                if (board.kinds[b] == kind && places[b] == cell) {
                    return true;
                }
            }
            return false;
        }
    }

    /**
     * States in the order in which they were come to. A state's layout has the places of its blocks
     * by number; its key is the same for all layouts that are one state.
     */
    private static final class StateStore {
        private static final int BUCKET_BITS = 14;
        private static final long SPREAD = 0x9E3779B97F4A7C15L;

        private final long[] keys = new long[STATES_MOST];
        private final long[] layouts = new long[STATES_MOST];
        private final int[] parents = new int[STATES_MOST];
        private final int[] moves = new int[STATES_MOST];
        /** A bucket's latest state plus 1, and in nexts the one before it plus 1; 0 ends the chain. */
        private final int[] heads = new int[1 << BUCKET_BITS];
        private final int[] nexts = new int[STATES_MOST];
        private int count;

        private static int bucketOf(long key) {
            return (int) (key * SPREAD >>> 64 - BUCKET_BITS);
        }

        private void clear() {
            for (int s = 0; s < count; s++) {
                heads[bucketOf(keys[s])] = 0;
            }
            count = 0;
        }

        private boolean holds(long key) {
            int link = heads[bucketOf(key)];
            for (int n = 0; n < count && link != 0; n++) {
                if (keys[link - 1] == key) {
                    return true;
                }
                link = nexts[link - 1];
            }
            return false;
        }

        private void take(long key, long layout, int parent, int move) {
            if (count >= STATES_MOST) {
                return;
            }
            int bucket = bucketOf(key);
            keys[count] = key;
            layouts[count] = layout;
            parents[count] = parent;
            moves[count] = move;
            nexts[count] = heads[bucket];
            count++;
            heads[bucket] = count;
        }
    }

    /** What the latest search found, kept apart from its states so that reach() can use their rows. */
    private static final class Route {
        private final int[] moves = new int[STATES_MOST];
        private int length;
        private int states;

        private void keep(StateStore store, boolean met) {
            states = store.count;
            length = met ? depthOf(store, store.count - 1) : 0;
            int state = store.count - 1;
            for (int k = length - 1; k >= 0; k--) {
                moves[k] = store.moves[state];
                state = store.parents[state];
            }
        }

        private static int depthOf(StateStore store, int last) {
            int depth = 0;
            for (int state = last; state > 0 && depth < STATES_MOST; state = store.parents[state]) {
                depth++;
            }
            return depth;
        }
    }

    /** THE SEARCH, on places of its own: the board's blocks stay where they are. */
    private static final class Finder {
        private static final int MET = 0;
        private static final int EXHAUSTED = -1;
        private static final int OVER = -2;
        private static final int GOING = 1;

        private static final int PLACE_BITS = 5;
        private static final int PLACE_MASK = 31;

        private final Board board;
        private final Goals goals;
        private final StateStore store = new StateStore();
        /** Of each block the least one that is alike. */
        private final int[] alike = new int[BLOCKS_MOST];
        private final int[] startPlaces = new int[BLOCKS_MOST];
        private final int[] places = new int[BLOCKS_MOST];
        private final int[] masks = new int[BLOCKS_MOST];
        private final int[] sorted = new int[BLOCKS_MOST];
        private int most;
        private int stepsMost;
        private boolean toGoal;

        private Finder(Board board, Goals goals) {
            this.board = board;
            this.goals = goals;
        }

        private int presentOpenGoal() {
            for (int b = 0; b < board.blocks; b++) {
                places[b] = Board.leastCell(board.masks[b]);
            }
            return goals.firstOpen(board, places);
        }

        private int explore(int measure, int mostStates, boolean endsAtGoal) {
            most = mostStates;
            stepsMost = measure == 0 ? 1 : SIDE_MOST;
            toGoal = endsAtGoal;
            store.clear();
            findAlike();
            int outcome = offerPresent();
            for (int state = 0; outcome == GOING && state < store.count && state < STATES_MOST; state++) {
                outcome = expand(state);
            }
            return outcome == GOING ? EXHAUSTED : outcome;
        }

        private void findAlike() {
            for (int b = 0; b < board.blocks; b++) {
                int first = 0;
                while (first < b && !board.areAlike(first, b)) {
                    first++;
                }
                alike[b] = first;
            }
        }

        private int offerPresent() {
            for (int b = 0; b < board.blocks; b++) {
                startPlaces[b] = Board.leastCell(board.masks[b]);
                places[b] = startPlaces[b];
            }
            return offer(NONE, 0);
        }

        private int expand(int state) {
            int filled = load(store.layouts[state]);
            for (int b = 0; b < board.blocks; b++) {
                int others = filled & ~masks[b];
                for (int way = 0; way < WAYS; way++) {
                    int outcome = tryWay(state, b, way, others);
                    if (outcome != GOING) {
                        return outcome;
                    }
                }
            }
            return GOING;
        }

        private int tryWay(int state, int b, int way, int others) {
            int place = places[b];
            int mask = masks[b];
            int outcome = GOING;
            for (int steps = 1; steps <= stepsMost && outcome == GOING; steps++) {
                mask = board.moved(mask, way, others);
                if (mask == 0) {
                    break;
                }
                places[b] = Board.leastCell(mask);
                outcome = offer(state, 32 * steps + 4 * b + way);
            }
            places[b] = place;
            return outcome;
        }

        /** Takes in the state that places tell, unless it was come to before. */
        private int offer(int parent, int move) {
            long key = keyOfPlaces();
            if (store.holds(key)) {
                return GOING;
            }
            if (store.count >= most) {
                return OVER;
            }
            store.take(key, layoutOfPlaces(), parent, move);
            return toGoal && goals.firstOpen(board, places) == NONE ? MET : GOING;
        }

        private long layoutOfPlaces() {
            long layout = 0;
            for (int b = board.blocks - 1; b >= 0; b--) {
                layout = layout << PLACE_BITS | places[b] + 1;
            }
            return layout;
        }

        /** The places of a layout and its blocks' cells; answers all cells that are not free. */
        private int load(long layout) {
            int filled = board.walls;
            long rest = layout;
            for (int b = 0; b < board.blocks; b++) {
                places[b] = (int) (rest & PLACE_MASK) - 1;
                rest >>>= PLACE_BITS;
                int gone = places[b] - startPlaces[b];
                masks[b] = gone >= 0 ? board.masks[b] << gone : board.masks[b] >>> -gone;
                filled |= masks[b];
            }
            return filled;
        }

        /** Places in the order of alike blocks and then their own, so that alike blocks may change places. */
        private long keyOfPlaces() {
            for (int b = 0; b < board.blocks; b++) {
                int value = (alike[b] << PLACE_BITS) + places[b] + 1;
                int at = b;
                while (at > 0 && sorted[at - 1] > value) {
                    sorted[at] = sorted[at - 1];
                    at--;
                }
                sorted[at] = value;
            }
            long key = 0;
            for (int b = 0; b < board.blocks; b++) {
                key = key << PLACE_BITS | sorted[b] & PLACE_MASK;
            }
            return key;
        }
    }

    /** Nodes, lines and tiles. An arrangement of the tiles is an int: 3 bits for the tile at each node. */
    private static final class TileGraph {
        private static final int ARRANGEMENTS_MOST = 40320;
        /** Seven nodes' tiles tell the eighth's, so that 21 bits tell arrangements apart. */
        private static final int TELLING_BITS = 21;

        private final int[] tiles = new int[NODES_MOST];
        /** Of each node the nodes joined to it, as bits. */
        private final int[] lines = new int[NODES_MOST];
        private final int[] distances = new int[NODES_MOST];
        private final int[] arrangements = new int[ARRANGEMENTS_MOST];
        /** A bit for each arrangement found, 64 in a row's element. */
        private final long[] marks = new long[1 << TELLING_BITS - 6];
        private int nodes;
        private int found;

        private int addNode() {
            if (nodes >= NODES_MOST) {
                return NONE;
            }
            nodes++;
            for (int node = 0; node < nodes; node++) {
                tiles[node] = node;
            }
            return nodes - 1;
        }

        private boolean areJoined(int a, int b) {
            return (lines[a] >>> b & 1) != 0;
        }

        private boolean addLine(int a, int b) {
            if (a == b || areJoined(a, b)) {
                return false;
            }
            lines[a] |= 1 << b;
            lines[b] |= 1 << a;
            return true;
        }

        private int gapNode() {
            int node = 0;
            while (node < nodes - 1 && tiles[node] != 0) {
                node++;
            }
            return node;
        }

        private boolean moveToGap(int node) {
            int gap = gapNode();
            return areJoined(gap, node) && exchange(gap, node);
        }

        private boolean exchange(int a, int b) {
            if (a == b) {
                return false;
            }
            int tile = tiles[a];
            tiles[a] = tiles[b];
            tiles[b] = tile;
            return true;
        }

        /** Of each node how many lines it is away from the least one that can be come to from it. */
        private void measureDistances() {
            for (int node = 0; node < nodes; node++) {
                distances[node] = NONE;
            }
            for (int node = 0; node < nodes; node++) {
                if (distances[node] == NONE) {
                    distances[node] = 0;
                    spreadDistances();
                }
            }
        }

        private void spreadDistances() {
            for (int distance = 0; distance < nodes; distance++) {
                for (int a = 0; a < nodes; a++) {
                    for (int b = 0; b < nodes; b++) {
                        if (distances[a] == distance && distances[b] == NONE && areJoined(a, b)) {
                            distances[b] = distance + 1;
                        }
                    }
                }
            }
        }

        /** Two colours that do at all are those of even and of odd distances. */
        private boolean hasTwoColours() {
            measureDistances();
            for (int a = 0; a < nodes; a++) {
                for (int b = 0; b < a; b++) {
                    if (areJoined(a, b) && (distances[a] + distances[b]) % 2 == 0) {
                        return false;
                    }
                }
            }
            return true;
        }

        private int invariant() {
            if (nodes == 0 || !hasTwoColours()) {
                return NONE;
            }
            return (countInversions() + distances[gapNode()]) % 2;
        }

        private int countInversions() {
            int inversions = 0;
            for (int a = 0; a < nodes; a++) {
                for (int b = a + 1; b < nodes; b++) {
                    if (tiles[a] > tiles[b]) {
                        inversions++;
                    }
                }
            }
            return inversions;
        }

        private int countArrangements() {
            if (nodes == 0) {
                return 0;
            }
            findArrangements();
            return found;
        }

        private boolean comesHome() {
            int home = 0;
            for (int node = 0; node < nodes; node++) {
                home |= node << 3 * node;
            }
            findArrangements();
            return isMarked(home);
        }

        private void findArrangements() {
            for (int i = 0; i < found; i++) {
                marks[markOf(arrangements[i])] = 0;
            }
            found = 0;
            int present = 0;
            for (int node = 0; node < nodes; node++) {
                present |= tiles[node] << 3 * node;
            }
            mark(present);
            for (int i = 0; i < found && i < ARRANGEMENTS_MOST; i++) {
                markShifts(arrangements[i]);
            }
        }

        private void markShifts(int arrangement) {
            int gap = 0;
            while (gap < nodes - 1 && (arrangement >>> 3 * gap & 7) != 0) {
                gap++;
            }
            for (int node = 0; node < nodes; node++) {
                if (areJoined(gap, node)) {
                    int tile = arrangement >>> 3 * node & 7;
                    mark(arrangement ^ tile << 3 * node ^ tile << 3 * gap);
                }
            }
        }

        private static int markOf(int arrangement) {
            return (arrangement & (1 << TELLING_BITS) - 1) >>> 6;
        }

        private boolean isMarked(int arrangement) {
            return (marks[markOf(arrangement)] >>> (arrangement & 63) & 1) != 0;
        }

        private void mark(int arrangement) {
            if (isMarked(arrangement) || found >= ARRANGEMENTS_MOST) {
                return;
            }
            marks[markOf(arrangement)] |= 1L << (arrangement & 63);
            arrangements[found] = arrangement;
            found++;
        }
    }
}
