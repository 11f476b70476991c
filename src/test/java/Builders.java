import java.util.function.IntUnaryOperator;

/** Makes objects that tests begin with, and writes out what they show. */
final class Builders {
    private Builders() {
    }

    /** A board from rows: # a wall, letters blocks whose kinds and numbers both go by the alphabet. */
    static SlideBoards boardOf(String... rows) {
        SlideBoards boards = new SlideBoards(rows[0].length(), rows.length);
        for (char letter = 'a'; letter <= 'h'; letter++) {
            if (String.join("", rows).indexOf(letter) >= 0) {
                int block = boards.block(letter - 'a');
                addCells(boards, block, letter, rows);
            }
        }
        for (int y = 0; y < rows.length; y++) {
            for (int x = 0; x < rows[y].length(); x++) {
                if (rows[y].charAt(x) == '#') {
                    boards.wall(x, y, true);
                }
            }
        }
        return boards;
    }

    private static void addCells(SlideBoards boards, int block, char letter, String... rows) {
        for (int y = 0; y < rows.length; y++) {
            for (int x = 0; x < rows[y].length(); x++) {
                if (rows[y].charAt(x) == letter) {
                    boards.cell(block, x, y);
                }
            }
        }
    }

    static String pictureOf(SlideBoards boards) {
        StringBuilder text = new StringBuilder();
        int shown = boards.picture(0);
        for (int i = 1; shown != -1; i++) {
            text.append((char) shown);
            shown = boards.picture(i);
        }
        return text.toString();
    }

    /** Nodes without a board to speak of, and lines between each two ends. */
    static SlideBoards graphOf(int nodes, int... ends) {
        SlideBoards boards = new SlideBoards(1, 1);
        addGraph(boards, nodes, ends);
        return boards;
    }

    private static void addGraph(SlideBoards boards, int nodes, int... ends) {
        for (int i = 0; i < nodes; i++) {
            boards.node();
        }
        for (int i = 0; i + 1 < ends.length; i += 2) {
            boards.join(ends[i], ends[i + 1]);
        }
    }

    static String tilesOf(SlideBoards boards, int nodes) {
        StringBuilder text = new StringBuilder();
        for (int node = 0; node < nodes; node++) {
            text.append(boards.tile(node));
        }
        return text.toString();
    }

    static int blocksOf(SlideBoards boards) {
        return countAnswers(boards::place);
    }

    static int nodesOf(SlideBoards boards) {
        return countAnswers(boards::tile);
    }

    /** How many numbers from 0 on a call takes before it throws. */
    private static int countAnswers(IntUnaryOperator call) {
        for (int number = 0; ; number++) {
            int asked = number;
            if (Checks.outcomeOf(() -> call.applyAsInt(asked)) instanceof String) {
                return number;
            }
        }
    }

    /** Walls, alike blocks and one without cells, goals, a search that found moves, tiles away from home. */
    static SlideBoards busy() {
        SlideBoards boards = boardOf("ab..", "#b.c", "....");
        boards.block(2);
        boards.cell(3, 3, 2);
        boards.block(4);
        boards.goal(1, 2, 1);
        boards.kindGoal(2, 0, 2);
        boards.search(1, 10000);
        boards.slide(1, 0, 1);
        addGraph(boards, 5, 0, 1, 1, 2, 2, 3, 3, 0, 3, 4);
        boards.shift(1);
        boards.swap(2, 4);
        return boards;
    }

    /** As many blocks, goals and nodes as there may be, on a board with one free cell. */
    static SlideBoards full() {
        SlideBoards boards = new SlideBoards(5, 2);
        for (int b = 0; b < 8; b++) {
            boards.block(b < 4 ? 0 : 25);
            boards.cell(b, b % 4, b / 4);
        }
        boards.wall(4, 1, true);
        boards.kindGoal(25, 0, 0);
        boards.kindGoal(0, 0, 1);
        for (int g = 2; g < 6; g++) {
            boards.goal(g == 5 ? 1 : 3, g == 5 ? 2 : 4, 0);
        }
        addGraph(boards, 8, 0, 1, 1, 2, 2, 3, 3, 4, 4, 5, 5, 6, 6, 7);
        boards.swap(3, 7);
        boards.shift(1);
        return boards;
    }
}
