import java.util.ArrayList;
import java.util.List;
import java.util.Random;

/** What must hold between calls whatever the board or the graph: moves are played, taken back, searched again. */
public final class PropertiesTest {
    private static final int BOARDS = 250;
    private static final int GRAPHS = 150;
    private static final int ENOUGH = 10000;

    private static final Checks checks = new Checks();

    public static void main(String[] args) {
        int played = 0;
        for (int seed = 0; seed < BOARDS; seed++) {
            for (int measure = 0; measure < 2; measure++) {
                played += playTheMoves(seed, measure) ? 1 : 0;
            }
            compareMeasures(seed);
            goThroughAllStates(seed);
            comeToAsManyFromEverywhere(seed);
        }
        checks.same("boards with moves to play are many", played > BOARDS / 2, true);
        for (int seed = 0; seed < GRAPHS; seed++) {
            shiftWithoutChange(seed);
            swapChangesParity(seed);
            comeHomeByParity(seed);
        }
        checks.end();
    }

    /**
     * Walls, up to four blocks of up to three cells, and goals. Unlike blocks have goals by block and by
     * kind; alike ones by kind alone, since for a goal by block it matters which of them came first.
     */
    private static SlideBoards made(int seed) {
        Random random = new Random(seed);
        int width = 2 + random.nextInt(3);
        int height = 2 + random.nextInt(3);
        SlideBoards boards = new SlideBoards(width, height);
        boolean alike = random.nextBoolean();
        int blocks = 1 + random.nextInt(4);
        for (int b = 0; b < blocks; b++) {
            boards.block(alike ? b / 2 : b);
            int cells = 1 + random.nextInt(alike ? 2 : 3);
            for (int n = 0; n < cells; n++) {
                boards.cell(b, random.nextInt(width), random.nextInt(height));
            }
        }
        boards.wall(random.nextInt(width), random.nextInt(height), true);
        int goals = 1 + random.nextInt(2);
        for (int g = 0; g < goals; g++) {
            int b = random.nextInt(blocks);
            int x = random.nextInt(width);
            int y = random.nextInt(height);
            if (alike || random.nextBoolean()) {
                boards.kindGoal(alike ? b / 2 : b, x, y);
            } else {
                boards.goal(b, x, y);
            }
        }
        return boards;
    }

    private static List<Integer> movesOf(SlideBoards boards) {
        List<Integer> moves = new ArrayList<>();
        for (int move = boards.step(0); move != -1; move = boards.step(moves.size())) {
            moves.add(move);
        }
        return moves;
    }

    /** Promises 6, 10, 11, 12: each move can be played, brings the goal one move nearer, and the last one meets it. */
    private static boolean playTheMoves(int seed, int measure) {
        SlideBoards boards = made(seed);
        String before = Builders.pictureOf(boards);
        int fewest = boards.search(measure, ENOUGH);
        if (fewest < 0) {
            checks.same("no moves " + seed, boards.step(0), -1);
            return false;
        }
        List<Integer> moves = movesOf(boards);
        checks.same("as many moves " + seed, moves.size(), fewest);
        for (int k = 0; k < fewest; k++) {
            int move = moves.get(k);
            checks.same("not met yet " + seed, boards.open() >= 0, true);
            checks.same("as measured " + seed, measure == 0 ? move / 32 == 1 : move / 32 >= 1, true);
            checks.same("played " + seed, boards.slide(move / 4 % 8, move % 4, move / 32), move / 32);
            checks.same("one move nearer " + seed, boards.search(measure, ENOUGH), fewest - k - 1);
        }
        checks.same("met " + seed, boards.open(), -1);
        for (int k = fewest - 1; k >= 0; k--) {
            int move = moves.get(k);
            boards.slide(move / 4 % 8, (move % 4 + 2) % 4, move / 32);
        }
        checks.same("taken back " + seed, Builders.pictureOf(boards), before);
        checks.same("searched again " + seed, boards.search(measure, ENOUGH), fewest);
        checks.same("the same moves " + seed, movesOf(boards), moves);
        return fewest > 0;
    }

    /** Promise 11: a slide is some steps, so slides are not more than steps, and neither can be where the other can't. */
    private static void compareMeasures(int seed) {
        SlideBoards boards = made(seed);
        int steps = boards.search(0, ENOUGH);
        int slides = boards.search(1, ENOUGH);
        if (steps < 0 || slides < 0) {
            checks.same("neither can be " + seed, steps, slides);
            return;
        }
        int stepsOfSlides = 0;
        for (int move : movesOf(boards)) {
            stepsOfSlides += move / 32;
        }
        checks.same("not more slides than steps " + seed, slides <= steps, true);
        checks.same("not more steps than those of slides " + seed, steps <= stepsOfSlides, true);
    }

    /** Promises 11, 13, 14: a search for what can't be takes in all states that can be come to, in either measure. */
    private static void goThroughAllStates(int seed) {
        SlideBoards boards = made(seed);
        boards.kindGoal(25, 0, 0);
        int all = boards.reach();
        for (int measure = 0; measure < 2; measure++) {
            checks.same("search " + seed, boards.search(measure, ENOUGH), all == -2 ? -2 : -1);
            checks.same("states " + seed, boards.states(), all == -2 ? ENOUGH : all);
            if (all > 1) {
                checks.same("one too few " + seed, boards.search(measure, all - 1), -2);
                checks.same("states but one " + seed, boards.states(), all - 1);
            }
        }
    }

    /** Promise 14: steps can be taken back, so that from each state as many can be come to. */
    private static void comeToAsManyFromEverywhere(int seed) {
        SlideBoards boards = made(seed);
        Random random = new Random(seed);
        int blocks = Builders.blocksOf(boards);
        int all = boards.reach();
        for (int n = 0; n < 6; n++) {
            int block = random.nextInt(blocks);
            int way = random.nextInt(4);
            int before = boards.place(block);
            int done = boards.slide(block, way, 1 + n);
            checks.same("reach from elsewhere " + seed, boards.reach(), all);
            if (n % 2 == 0) {
                checks.same("as many steps back " + seed, boards.slide(block, (way + 2) % 4, done), done);
                checks.same("is back " + seed, boards.place(block), before);
            }
        }
    }

    private static SlideBoards graph(int seed) {
        Random random = new Random(seed);
        int nodes = 2 + random.nextInt(6);
        SlideBoards boards = Builders.graphOf(nodes);
        boolean even = random.nextBoolean();
        int lines = random.nextInt(2 * nodes);
        for (int n = 0; n < lines; n++) {
            int a = random.nextInt(nodes);
            int b = random.nextInt(nodes);
            if (!even || (a + b) % 2 == 1) {
                boards.join(a, b);
            }
        }
        int swaps = random.nextInt(4);
        for (int n = 0; n < swaps; n++) {
            boards.swap(random.nextInt(nodes), random.nextInt(nodes));
        }
        return boards;
    }

    /** Promises 19, 21 to 24: what shifts can come to stays the same along them. */
    private static void shiftWithoutChange(int seed) {
        SlideBoards boards = graph(seed);
        Random random = new Random(seed);
        int nodes = Builders.nodesOf(boards);
        String asked = asked(boards);
        for (int n = 0; n < 40; n++) {
            int node = random.nextInt(nodes);
            int tile = boards.tile(node);
            int gap = Builders.tilesOf(boards, nodes).indexOf('0');
            boolean done = boards.shift(node);
            checks.same("tile " + seed, boards.tile(done ? gap : node), tile);
            checks.same("gap " + seed, boards.tile(done ? node : gap), 0);
            if (done && n % 8 == 0) {
                checks.same("behind a shift " + seed, asked(boards), asked);
            }
        }
    }

    private static String asked(SlideBoards boards) {
        return boards.even() + " " + boards.parity() + " " + boards.ways() + " " + boards.home();
    }

    /** Promises 20, 22: two tiles that change places, the gap not among them, make an even sum odd. */
    private static void swapChangesParity(int seed) {
        SlideBoards boards = graph(seed);
        int nodes = Builders.nodesOf(boards);
        int parity = boards.parity();
        for (int a = 0; a < nodes; a++) {
            for (int b = 0; b < a; b++) {
                if (boards.tile(a) != 0 && boards.tile(b) != 0) {
                    boards.swap(a, b);
                    checks.same("parity behind a swap " + seed, boards.parity(), parity == -1 ? -1 : 1 - parity);
                    boards.swap(b, a);
                }
            }
        }
        checks.same("parity behind all of them " + seed, boards.parity(), parity);
    }

    /** Promises 22, 24: tiles at home have parity 0, so that from parity 1 they can't be come to. */
    private static void comeHomeByParity(int seed) {
        SlideBoards boards = graph(seed);
        if (boards.home()) {
            checks.same("no tiles come home with parity 1 " + seed, boards.parity() != 1, true);
        }
        int nodes = Builders.nodesOf(boards);
        if (nodes < 8) {
            boards.node();
            checks.same("home by a new node " + seed, boards.home(), true);
            checks.same("parity at home " + seed, boards.parity(), boards.even() ? 0 : -1);
        }
    }
}
