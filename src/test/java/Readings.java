/** All that later calls can show of an object, as one text. The calls change it, so it is read once. */
final class Readings {
    private static final int ENOUGH = 10000;
    private static final int MOVES_SHOWN = 12;

    private final SlideBoards boards;
    private final StringBuilder text = new StringBuilder();
    private int blocks;
    private int nodes;

    private Readings(SlideBoards boards) {
        this.boards = boards;
    }

    static String of(SlideBoards boards) {
        Readings readings = new Readings(boards);
        readings.readBoard();
        readings.readLatestSearch("latest");
        readings.readGraph();
        readings.note("reach", boards.reach());
        readings.readLatestSearch("latest behind reach");
        readings.readNewSearch(0);
        readings.readNewSearch(1);
        readings.playBoard();
        readings.playGraph();
        readings.note("goals", boards.noGoals());
        readings.note("next block", boards.block(1));
        readings.note("next node", boards.node());
        return readings.text.toString();
    }

    private void note(String what, Object answer) {
        text.append(what).append(' ').append(answer).append('\n');
    }

    private void readBoard() {
        note("picture", Builders.pictureOf(boards));
        blocks = Builders.blocksOf(boards);
        for (int b = 0; b < blocks; b++) {
            note("place", boards.place(b));
        }
        note("open", boards.open());
    }

    private void readLatestSearch(String what) {
        note(what, boards.states());
        for (int k = 0; k < MOVES_SHOWN; k++) {
            note("step", boards.step(k));
        }
    }

    private void readNewSearch(int measure) {
        note("search", boards.search(measure, ENOUGH));
        readLatestSearch("states");
    }

    private void readGraph() {
        nodes = Builders.nodesOf(boards);
        note("tiles", Builders.tilesOf(boards, nodes));
        note("even", boards.even());
        note("parity", boards.parity());
        note("ways", boards.ways());
        note("home", boards.home());
    }

    private void playBoard() {
        for (int b = 0; b < blocks; b++) {
            for (int way = 0; way < 4; way++) {
                note("slide", boards.slide(b, way, 1));
            }
        }
        note("open behind slides", boards.open());
    }

    private void playGraph() {
        for (int node = 0; node < nodes; node++) {
            note("shift", boards.shift(node));
        }
        for (int a = 0; a < nodes; a++) {
            for (int b = 0; b < a; b++) {
                note("join", boards.join(a, b));
            }
        }
    }
}
