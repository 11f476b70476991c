import java.util.function.Supplier;

/** Promises 11 to 14: a test for each sentence that names a boundary case; the sentence stands above it. */
public final class SearchEdgesTest {
    private static final int LEAST = Integer.MIN_VALUE;
    private static final int GREATEST = Integer.MAX_VALUE;

    private static final Checks checks = new Checks();
    private static final Twins twins = new Twins(checks);

    public static void main(String[] args) {
        presentStateIsTheFirst();
        metByThePresentState();
        oneStateMore();
        oneStateMoreIsNotAskedFor();
        cannotBe();
        cannotBeWithOneState();
        refusedMeasureOrMost();
        takenMeasureAndMost();
        searchLeavesTheBoard();
        comeToBeforeIsPassedOver();
        noSuchMove();
        goalNotMet();
        moveOfTheLatestNotRefused();
        movesFromThePresentStateOfThen();
        greatestMove();
        statesBefore();
        statesOfTheLatestNotRefused();
        reachOfOneState();
        reachOfTenThousand();
        reachOfOneMore();
        whatWasFoundStays();
        checks.end();
    }

    /** A block in the first of five cells, and a goal for it. */
    private static SlideBoards row(int goal) {
        SlideBoards boards = Builders.boardOf("a....");
        boards.goal(0, goal, 0);
        return boards;
    }

    /** A goal for a kind that no block has. */
    private static SlideBoards hopeless(String... rows) {
        SlideBoards boards = Builders.boardOf(rows);
        boards.kindGoal(25, 0, 0);
        return boards;
    }

    /** search: "at most so many states (the present one is the first)" */
    private static void presentStateIsTheFirst() {
        for (int most = 1; most <= 6; most++) {
            for (int goal = 0; goal < 5; goal++) {
                String what = "goal " + goal + ", most " + most;
                SlideBoards boards = row(goal);
                checks.same(what + " in steps", boards.search(0, most), most > goal ? goal : -2);
                checks.same(what + " states", boards.states(), Math.min(most, goal + 1));
                checks.same(what + " in slides", boards.search(1, most), most > goal ? Math.min(goal, 1) : -2);
                checks.same(what + " states", boards.states(), Math.min(most, goal + 1));
            }
        }
    }

    /** THE SEARCH: "ends when THE GOAL is met by a state that is come to (the present one, too)" */
    private static void metByThePresentState() {
        for (int measure = 0; measure < 2; measure++) {
            for (int most : new int[] {1, 2, 10000}) {
                SlideBoards met = row(0);
                checks.same("met at once", met.search(measure, most), 0);
                checks.same("by the one state", met.states(), 1);
                checks.same("without a move", met.step(0), -1);
                SlideBoards none = Builders.boardOf("a..", "..b");
                checks.same("without goals met at once", none.search(measure, most), 0);
                checks.same("by the one state", none.states(), 1);
                SlideBoards empty = new SlideBoards(1, 1);
                checks.same("without blocks met at once", empty.search(measure, most), 0);
                checks.same("by the one state", empty.states(), 1);
            }
        }
    }

    /** search: "-2 when one state more would have to be taken in before THE GOAL is met" */
    private static void oneStateMore() {
        for (int measure = 0; measure < 2; measure++) {
            SlideBoards boards = Builders.busy();
            int moves = boards.search(measure, 10000);
            int states = boards.states();
            int first = boards.step(0);
            checks.same("there are moves", moves > 1 && states > 2, true);
            checks.same("just as many states", boards.search(measure, states), moves);
            checks.same("are taken in", boards.states(), states);
            checks.same("the same move", boards.step(0), first);
            checks.same("one state less", boards.search(measure, states - 1), -2);
            checks.same("is taken in", boards.states(), states - 1);
            checks.same("no move", boards.step(0), -1);
            checks.same("the present one alone", boards.search(measure, 1), -2);
            checks.same("is taken in", boards.states(), 1);
        }
    }

    /** search: -2 is for a state that "would have to be taken in": not when there is none more. */
    private static void oneStateMoreIsNotAskedFor() {
        for (int measure = 0; measure < 2; measure++) {
            for (int most = 1; most <= 7; most++) {
                SlideBoards boards = hopeless("a..", "..#");
                checks.same("five states, most " + most, boards.search(measure, most), most < 5 ? -2 : -1);
                checks.same("states", boards.states(), Math.min(most, 5));
            }
        }
    }

    /** search: "-1 when it can't be" */
    private static void cannotBe() {
        for (int measure = 0; measure < 2; measure++) {
            SlideBoards both = row(4);
            both.goal(0, 0, 0);
            checks.same("two goals for one block", both.search(measure, 10000), -1);
            SlideBoards wall = Builders.boardOf("a.#");
            wall.goal(0, 2, 0);
            checks.same("a goal on a wall", wall.search(measure, 10000), -1);
            SlideBoards order = Builders.boardOf("a.b");
            order.goal(0, 2, 0);
            checks.same("a goal behind another block", order.search(measure, 10000), -1);
            SlideBoards wide = Builders.boardOf("aa.");
            wide.goal(0, 2, 0);
            checks.same("a goal that the place can't come to", wide.search(measure, 10000), -1);
            SlideBoards none = new SlideBoards(2, 2);
            none.block(0);
            none.goal(0, 0, 0);
            checks.same("a goal for a block without cells", none.search(measure, 10000), -1);
            checks.same("a goal for no block's kind", hopeless("a.").search(measure, 10000), -1);
        }
    }

    /** search: "-1 when it can't be", for one state is enough to know where nothing can be moved. */
    private static void cannotBeWithOneState() {
        for (int measure = 0; measure < 2; measure++) {
            SlideBoards shut = Builders.boardOf("a#.");
            shut.goal(0, 2, 0);
            checks.same("shut in", shut.search(measure, 1), -1);
            checks.same("one state", shut.states(), 1);
            checks.same("no move", shut.step(0), -1);
            SlideBoards empty = new SlideBoards(5, 5);
            empty.kindGoal(0, 0, 0);
            checks.same("no blocks", empty.search(measure, 1), -1);
            checks.same("one state", empty.states(), 1);
        }
    }

    /** search: "-3, doing nothing, when measure is not 0 or 1, or most not 1 .. 10,000" */
    private static void refusedMeasureOrMost() {
        for (int measure : new int[] {LEAST, -2, -1, 2, 3, GREATEST}) {
            for (int most : new int[] {0, 1, 10000, 10001}) {
                twins.noTraceAnywhere("measure " + measure + ", most " + most,
                        boards -> boards.search(measure, most), -3);
            }
        }
        for (int measure = 0; measure < 2; measure++) {
            int measured = measure;
            for (int most : new int[] {LEAST, -10000, -1, 0, 10001, 10002, 20000, GREATEST}) {
                twins.noTraceAnywhere("most " + most + ", measure " + measure,
                        boards -> boards.search(measured, most), -3);
            }
        }
    }

    /** search: measures 0 and 1, and most 1 and 10,000, are not refused. */
    private static void takenMeasureAndMost() {
        checks.same("steps, 1", row(4).search(0, 1), -2);
        checks.same("steps, 10000", row(4).search(0, 10000), 4);
        checks.same("slides, 1", row(4).search(1, 1), -2);
        checks.same("slides, 10000", row(4).search(1, 10000), 1);
        checks.same("steps, 9999", row(4).search(0, 9999), 4);
        checks.same("slides, 2", row(1).search(1, 2), 1);
    }

    /** THE SEARCH goes through states; blocks stay where they are, whatever it answers. */
    private static void searchLeavesTheBoard() {
        int[] mosts = {1, 5, 10000};
        for (int most : mosts) {
            SlideBoards boards = Builders.busy();
            String before = Builders.pictureOf(boards);
            int open = boards.open();
            boards.search(0, most);
            boards.search(1, most);
            checks.same("picture", Builders.pictureOf(boards), before);
            checks.same("open", boards.open(), open);
            checks.same("goals", boards.noGoals(), 2);
        }
    }

    /** THE SEARCH: "a state that was come to before is passed over"; alike blocks make one state. */
    private static void comeToBeforeIsPassedOver() {
        for (int measure = 0; measure < 2; measure++) {
            SlideBoards alike = new SlideBoards(2, 2);
            SlideBoards unlike = new SlideBoards(2, 2);
            SlideBoards shapes = new SlideBoards(3, 2);
            for (int b = 0; b < 2; b++) {
                alike.block(0);
                alike.cell(b, b, 0);
                unlike.block(b);
                unlike.cell(b, b, 0);
                shapes.block(0);
                shapes.cell(b, b, 0);
            }
            shapes.cell(1, 2, 0);
            alike.kindGoal(25, 0, 0);
            unlike.kindGoal(25, 0, 0);
            shapes.kindGoal(25, 0, 0);
            checks.same("alike", alike.search(measure, 6) + " " + alike.states(), "-1 6");
            checks.same("unlike", unlike.search(measure, 12) + " " + unlike.states(), "-1 12");
            checks.same("of one kind, but not one shape", shapes.search(measure, 100) + " " + shapes.states(), "-1 16");
        }
    }

    /** step: "-1 when there is none" */
    private static void noSuchMove() {
        int[] none = {LEAST, -2, -1, GREATEST};
        for (int goal = 1; goal < 5; goal++) {
            SlideBoards boards = row(goal);
            checks.same("moves", boards.search(0, 10000), goal);
            for (int k = 0; k < goal; k++) {
                checks.same("move " + k, boards.step(k), 32);
            }
            checks.same("behind the last", boards.step(goal), -1);
            checks.same("farther behind", boards.step(goal + 1), -1);
            for (int k : none) {
                checks.same("no move " + k, boards.step(k), -1);
            }
            checks.same("a move still", boards.step(goal - 1), 32);
        }
        for (int k : new int[] {LEAST, -1, 0, 1, 9999, 10000, GREATEST}) {
            checks.same("before a search " + k, row(1).step(k), -1);
        }
        SlideBoards shorter = row(4);
        shorter.search(0, 100);
        shorter.search(1, 100);
        checks.same("one move", shorter.step(0), 128);
        checks.same("none of the search before", shorter.step(1), -1);
    }

    /** step: "-1 when [..] THE GOAL was not met" */
    private static void goalNotMet() {
        SlideBoards boards = row(3);
        boards.search(0, 10000);
        checks.same("met", boards.step(0), 32);
        boards.search(0, 3);
        checks.same("too few states", boards.step(0) + " " + boards.step(1), "-1 -1");
        boards.search(1, 10000);
        checks.same("met again", boards.step(0), 96);
        boards.goal(0, 0, 0);
        boards.search(1, 10000);
        checks.same("can't be", boards.step(0) + " " + boards.step(1), "-1 -1");
    }

    /** step: "of the latest search() that was not -3" */
    private static void moveOfTheLatestNotRefused() {
        SlideBoards boards = row(2);
        boards.search(0, 0);
        checks.same("refused, none before", boards.step(0), -1);
        boards.search(1, 100);
        boards.search(2, 100);
        checks.same("refused measure", boards.step(0), 64);
        boards.search(0, 10001);
        checks.same("refused most", boards.step(0), 64);
        boards.search(0, 100);
        checks.same("not refused", boards.step(0), 32);
    }

    /** step: "from the present state of then on" */
    private static void movesFromThePresentStateOfThen() {
        SlideBoards boards = row(2);
        boards.search(1, 100);
        boards.slide(0, 0, 4);
        boards.wall(0, 0, true);
        boards.noGoals();
        boards.goal(0, 3, 0);
        boards.block(1);
        boards.cell(1, 1, 0);
        checks.same("a move of then", boards.step(0), 64);
        checks.same("its one move", boards.step(1), -1);
        checks.same("its states", boards.states(), 3);
        checks.same("a search of now", boards.search(1, 100), 1);
        checks.same("goes from here", boards.step(0), 34);
    }

    /** step: "32 times how many steps, and 4 times the block, and the way", with all of them greatest. */
    private static void greatestMove() {
        SlideBoards boards = new SlideBoards(5, 5);
        for (int b = 0; b < 8; b++) {
            boards.block(b);
        }
        boards.cell(7, 4, 4);
        boards.goal(7, 4, 0);
        checks.same("one slide", boards.search(1, 10000), 1);
        checks.same("four steps, block 7, way 3", boards.step(0), 32 * 4 + 4 * 7 + 3);
        checks.same("four steps", boards.search(0, 10000), 4);
        checks.same("one step, block 7, way 3", boards.step(3), 32 + 4 * 7 + 3);
    }

    /** states: "0 before" */
    private static void statesBefore() {
        checks.same("new", new SlideBoards(5, 5).states(), 0);
        SlideBoards boards = row(3);
        boards.reach();
        checks.same("before a search", boards.states(), 0);
        boards.search(2, 5);
        boards.search(0, 0);
        boards.search(1, 10001);
        checks.same("refused ones alone", boards.states(), 0);
    }

    /** states: "the latest search() that was not -3" */
    private static void statesOfTheLatestNotRefused() {
        SlideBoards boards = row(3);
        boards.search(0, 100);
        boards.search(-1, 100);
        boards.search(1, 0);
        checks.same("refused ones behind it", boards.states(), 4);
        boards.search(0, 2);
        checks.same("too few", boards.states(), 2);
        boards.noGoals();
        boards.search(0, 100);
        checks.same("fewer again", boards.states(), 1);
    }

    /** reach: the present state can be come to, when nothing can be moved, too. */
    private static void reachOfOneState() {
        checks.same("no blocks", new SlideBoards(5, 5).reach(), 1);
        checks.same("one cell", Builders.boardOf("a").reach(), 1);
        checks.same("shut in", Builders.boardOf("a#", "#b").reach(), 1);
        checks.same("full", Builders.boardOf("abc", "def").reach(), 1);
        checks.same("room for one step", Builders.boardOf("a.").reach(), 2);
    }

    /** The same board twice, the second one counting states by itself. */
    private static final class Counted {
        private final SlideBoards boards = new SlideBoards(5, 5);
        private final PlainBoards plain = new PlainBoards(5, 5);

        private Counted walls(int... cells) {
            for (int cell : cells) {
                boards.wall(cell % 5, cell / 5, true);
                plain.wall(cell % 5, cell / 5, true);
            }
            return this;
        }

        private Counted block(int kind, int... cells) {
            int block = boards.block(kind);
            plain.block(kind);
            for (int cell : cells) {
                boards.cell(block, cell % 5, cell / 5);
                plain.cell(block, cell % 5, cell / 5);
            }
            return this;
        }
    }

    private static Counted tenThousand() {
        return new Counted().walls(0, 1, 3, 7, 15, 19, 20, 24)
                .block(0, 4, 12).block(0, 11).block(0, 23).block(0, 9).block(0, 10).block(0, 5);
    }

    private static Counted oneMore() {
        return new Counted().walls(2, 7, 11, 18, 19, 23)
                .block(1, 0, 1).block(2, 9, 13).block(0, 21).block(0, 20).block(0, 14).block(0, 10);
    }

    /** reach: "-2 when there are more than 10,000", and not when there are just so many. */
    private static void reachOfTenThousand() {
        Counted just = tenThousand();
        checks.same("plainly counted", just.plain.countStates(10001), 10000);
        checks.same("just 10,000", just.boards.reach(), 10000);
        just.boards.kindGoal(25, 0, 0);
        for (int measure = 0; measure < 2; measure++) {
            checks.same("a search through all", just.boards.search(measure, 10000), -1);
            checks.same("takes in all", just.boards.states(), 10000);
            checks.same("a search through one less", just.boards.search(measure, 9999), -2);
            checks.same("takes in one less", just.boards.states(), 9999);
        }
    }

    /** reach: "-2 when there are more than 10,000", be it one. */
    private static void reachOfOneMore() {
        Counted more = oneMore();
        checks.same("plainly counted", more.plain.countStates(10002), 10001);
        checks.same("one more than 10,000", more.boards.reach(), -2);
        more.boards.kindGoal(25, 0, 0);
        for (int measure = 0; measure < 2; measure++) {
            checks.same("a search for all", more.boards.search(measure, 10000), -2);
            checks.same("takes in 10,000", more.boards.states(), 10000);
        }
    }

    /** reach: "Steps, states, what was found stay." */
    private static void whatWasFoundStays() {
        twins.noTrace("new", () -> new SlideBoards(3, 2), boards -> boards.reach(), 1);
        twins.noTrace("busy", Builders::busy, boards -> boards.reach(), 1512);
        twins.noTrace("full", Builders::full, boards -> boards.reach(), 315);
        Supplier<SlideBoards> many = () -> {
            SlideBoards boards = oneMore().boards;
            boards.goal(0, 0, 1);
            boards.search(0, 10000);
            return boards;
        };
        checks.same("a search before found a move", many.get().step(0), 33);
        twins.noTrace("more than 10,000", many, boards -> boards.reach(), -2);
        SlideBoards last = tenThousand().boards;
        last.kindGoal(25, 0, 0);
        last.search(0, 9999);
        last.reach();
        checks.same("states of a search that was too long", last.states() + " " + last.step(0), "9999 -1");
    }
}
