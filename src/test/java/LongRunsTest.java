/** Runs of up to 512 of the dearest calls: later ones answer as the first did. */
public final class LongRunsTest {
    private static final int CALLS_MOST = 512;

    public static void main(String[] args) {
        Checks checks = new Checks();
        searchOften(checks);
        reachOften(checks);
        countAgain(checks);
        arrangeOften(checks);
        checks.end();
    }

    /** Eight unlike blocks of one cell each, in the two upper rows of the greatest board. */
    private static SlideBoards fullBoard() {
        SlideBoards boards = new SlideBoards(5, 5);
        for (int b = 0; b < 8; b++) {
            boards.block(b);
            boards.cell(b, b % 5, b / 5);
        }
        return boards;
    }

    private static void searchOften(Checks checks) {
        SlideBoards boards = fullBoard();
        boards.goal(0, 4, 4);
        boards.goal(7, 0, 0);
        for (int call = 17; call < CALLS_MOST - 1; call += 2) {
            checks.same("search " + call, boards.search(call / 2 % 2, 10000), -2);
            checks.same("states " + call, boards.states(), 10000);
        }
    }

    private static void reachOften(Checks checks) {
        SlideBoards boards = fullBoard();
        for (int call = 17; call < CALLS_MOST; call++) {
            checks.same("reach " + call, boards.reach(), -2);
        }
    }

    /**
     * A state left over from an earlier call would be passed over and be missing in the count. Three
     * unlike blocks on 22 cells have 22 * 21 * 20 states, of which walls decide which ones they are.
     */
    private static void countAgain(Checks checks) {
        for (int wall = 0; wall < 22; wall++) {
            SlideBoards boards = new SlideBoards(5, 5);
            for (int b = 0; b < 3; b++) {
                boards.block(b);
                boards.cell(b, b, 0);
                int cell = 3 + (wall + 7 * b) % 22;
                boards.wall(cell % 5, cell / 5, true);
            }
            boards.kindGoal(25, 0, 0);
            for (int again = 0; again < 4; again++) {
                checks.same("reach again, wall " + wall, boards.reach(), 9240);
                checks.same("search again, wall " + wall, boards.search(again % 2, 10000), -1);
                checks.same("states again, wall " + wall, boards.states(), 9240);
            }
        }
    }

    private static void arrangeOften(Checks checks) {
        SlideBoards boards = new SlideBoards(1, 1);
        int calls = 0;
        for (int a = 0; a < 8; a++) {
            boards.node();
            calls++;
            for (int b = 0; b < a; b++) {
                boards.join(a, b);
                calls++;
            }
        }
        while (calls < CALLS_MOST - 1) {
            checks.same("ways " + calls, boards.ways(), 40320);
            checks.same("home " + calls, boards.home(), true);
            calls += 2;
        }
    }
}
