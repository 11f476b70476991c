import java.util.ArrayList;
import java.util.List;
import java.util.Random;

/** Runs of calls, the same ones every time, compared with the second writing of the document. */
public final class RandomRunsTest {
    private static final int BOARD_RUNS = 1500;
    private static final int GRAPH_RUNS = 1000;
    private static final int LONG_RUNS = 40;
    /** "An object is used for at most 512 calls after it has been made" */
    private static final int CALLS_MOST = 512;

    private final Checks checks = new Checks();
    private final Random random;
    private final SlideBoards boards;
    private final PlainBoards plain;
    private final int width;
    private final int height;
    private final List<String> told = new ArrayList<>();

    private RandomRunsTest(int seed, int leastSide) {
        random = new Random(seed);
        width = leastSide + random.nextInt(7 - leastSide);
        height = leastSide + random.nextInt(7 - leastSide);
        boards = new SlideBoards(width, height);
        plain = new PlainBoards(width, height);
        told.add("new(" + width + ", " + height + ")");
    }

    public static void main(String[] args) {
        Checks all = new Checks();
        for (int seed = 0; seed < BOARD_RUNS + GRAPH_RUNS; seed++) {
            RandomRunsTest run = new RandomRunsTest(seed, 0);
            if (seed < BOARD_RUNS) {
                run.playBoard();
            } else {
                run.playGraph();
            }
            all.same("run " + seed + " wrong answers", run.checks.wrong(), 0);
        }
        for (int seed = 0; seed < LONG_RUNS; seed++) {
            RandomRunsTest one = new RandomRunsTest(2 * seed, 3);
            RandomRunsTest other = new RandomRunsTest(2 * seed + 1, 3);
            playInTurns(one, other);
            all.same("long run " + seed + " wrong answers", one.checks.wrong() + other.checks.wrong(), 0);
        }
        all.end();
    }

    /** Two objects get 512 calls each, in turns and of all sorts: neither shows what was done to the other. */
    private static void playInTurns(RandomRunsTest one, RandomRunsTest other) {
        one.layBoard(2);
        other.layBoard(3);
        one.layGraph(6);
        other.layGraph(8);
        while (one.callsLeft() > 0 || other.callsLeft() > 0) {
            one.callAny(2, 6);
            other.callAny(3, 8);
        }
    }

    private int callsLeft() {
        return CALLS_MOST + 1 - told.size();
    }

    private void callAny(int kinds, int nodes) {
        switch (random.nextInt(8)) {
            case 0:
            case 1:
            case 2:
                callBoard(kinds);
                break;
            case 3:
            case 4:
                callGraph(nodes);
                break;
            case 5:
                int at = near(30);
                compare("picture(" + at + ")", () -> boards.picture(at), () -> plain.picture(at));
                break;
            case 6:
                int block = near(6);
                compare("place(" + block + ")", () -> boards.place(block), () -> plain.place(block));
                break;
            default:
                int node = near(nodes);
                compare("tile(" + node + ")", () -> boards.tile(node), () -> plain.tile(node));
                break;
        }
    }

    private void compare(String call, Checks.Call ours, Checks.Call due) {
        if (callsLeft() == 0) {
            return;
        }
        told.add(call);
        Object got = Checks.outcomeOf(ours);
        Object want = Checks.outcomeOf(due);
        checks.same(got.equals(want) ? call : told.toString(), got, want);
    }

    /** Mostly 0 .. below - 1, now and then just outside. */
    private int near(int below) {
        return random.nextInt(12) == 0 ? random.nextInt(below + 4) - 2 : random.nextInt(Math.max(1, below));
    }

    private void layBoard(int kinds) {
        int walls = random.nextInt(5);
        for (int i = 0; i < walls; i++) {
            callWall();
        }
        int cells = random.nextInt(12);
        for (int i = 0; i < cells; i++) {
            if (i == 0 || random.nextInt(2) == 0) {
                callBlock(kinds);
            }
            callCell();
        }
    }

    private void playBoard() {
        int kinds = 1 + random.nextInt(3);
        layBoard(kinds);
        for (int i = 0; i < 40; i++) {
            callBoard(kinds);
        }
        for (int i = -1; i <= 30; i++) {
            int at = i;
            compare("picture(" + at + ")", () -> boards.picture(at), () -> plain.picture(at));
        }
        for (int i = -1; i < 9; i++) {
            int b = i;
            compare("place(" + b + ")", () -> boards.place(b), () -> plain.place(b));
        }
    }

    private void callBoard(int kinds) {
        switch (random.nextInt(16)) {
            case 0:
                callWall();
                break;
            case 1:
                callCell();
                break;
            case 2:
                callBlock(kinds);
                break;
            case 3:
            case 4:
                callGoal();
                break;
            case 5:
                callKindGoal(kinds);
                break;
            case 6:
                if (random.nextInt(3) == 0) {
                    compare("noGoals()", boards::noGoals, plain::noGoals);
                }
                break;
            case 7:
                compare("open()", boards::open, plain::open);
                break;
            case 8:
                callSearch();
                break;
            case 9:
                if (random.nextInt(8) == 0) {
                    compare("reach()", boards::reach, plain::reach);
                }
                compareRoute();
                break;
            default:
                callSlide();
                break;
        }
    }

    private void callWall() {
        int x = near(width);
        int y = near(height);
        boolean on = random.nextInt(3) != 0;
        compare("wall(" + x + ", " + y + ", " + on + ")", () -> boards.wall(x, y, on), () -> plain.wall(x, y, on));
    }

    private void callBlock(int kinds) {
        int kind = random.nextInt(10) == 0 ? random.nextInt(32) - 3 : random.nextInt(kinds);
        compare("block(" + kind + ")", () -> boards.block(kind), () -> plain.block(kind));
    }

    private void callCell() {
        int b = near(6);
        int x = near(width);
        int y = near(height);
        compare("cell(" + b + ", " + x + ", " + y + ")", () -> boards.cell(b, x, y), () -> plain.cell(b, x, y));
    }

    private void callSlide() {
        int b = near(6);
        int way = near(4);
        int n = random.nextInt(10) == 0 ? Integer.MAX_VALUE : random.nextInt(7) - 1;
        compare("slide(" + b + ", " + way + ", " + n + ")",
                () -> boards.slide(b, way, n), () -> plain.slide(b, way, n));
    }

    private void callGoal() {
        int b = near(6);
        int x = near(width);
        int y = near(height);
        compare("goal(" + b + ", " + x + ", " + y + ")", () -> boards.goal(b, x, y), () -> plain.goal(b, x, y));
    }

    private void callKindGoal(int kinds) {
        int kind = random.nextInt(10) == 0 ? random.nextInt(32) - 3 : random.nextInt(kinds);
        int x = near(width);
        int y = near(height);
        compare("kindGoal(" + kind + ", " + x + ", " + y + ")",
                () -> boards.kindGoal(kind, x, y), () -> plain.kindGoal(kind, x, y));
    }

    private void callSearch() {
        int measure = near(2);
        int most = random.nextInt(10) == 0 ? 10000 - 2 + random.nextInt(4) : random.nextInt(2000) - 1;
        compare("search(" + measure + ", " + most + ")",
                () -> boards.search(measure, most), () -> plain.search(measure, most));
        compareRoute();
    }

    private void compareRoute() {
        compare("states()", boards::states, plain::states);
        for (int i = -1; i < 12; i++) {
            int k = i;
            compare("step(" + k + ")", () -> boards.step(k), () -> plain.step(k));
        }
    }

    private void layGraph(int nodes) {
        for (int i = 0; i < nodes; i++) {
            compare("node()", boards::node, plain::node);
        }
        int lines = random.nextInt(nodes + 5);
        for (int i = 0; i < lines; i++) {
            callPair(nodes, 0);
        }
    }

    private void playGraph() {
        compareGraph();
        int nodes = random.nextInt(10);
        layGraph(nodes);
        for (int i = 0; i < 25; i++) {
            callGraph(nodes);
        }
        compareGraph();
    }

    private void callGraph(int nodes) {
        switch (random.nextInt(10)) {
            case 0:
                if (random.nextInt(5) == 0) {
                    compare("node()", boards::node, plain::node);
                }
                break;
            case 1:
            case 2:
                callPair(nodes, random.nextInt(2));
                break;
            case 3:
                if (random.nextInt(3) == 0) {
                    compareGraph();
                }
                break;
            default:
                int node = near(nodes);
                compare("shift(" + node + ")", () -> boards.shift(node), () -> plain.shift(node));
                break;
        }
    }

    private void callPair(int nodes, int which) {
        int a = near(nodes);
        int b = near(nodes);
        if (which == 0) {
            compare("join(" + a + ", " + b + ")", () -> boards.join(a, b), () -> plain.join(a, b));
        } else {
            compare("swap(" + a + ", " + b + ")", () -> boards.swap(a, b), () -> plain.swap(a, b));
        }
    }

    private void compareGraph() {
        for (int i = -1; i < 9; i++) {
            int node = i;
            compare("tile(" + node + ")", () -> boards.tile(node), () -> plain.tile(node));
        }
        compare("even()", boards::even, plain::even);
        compare("parity()", boards::parity, plain::parity);
        compare("ways()", boards::ways, plain::ways);
        compare("home()", boards::home, plain::home);
    }
}
