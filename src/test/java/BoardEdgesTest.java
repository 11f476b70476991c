import java.util.function.Supplier;

/** Promises 1 to 10 and 15: a test for each sentence that names a boundary case; the sentence stands above it. */
public final class BoardEdgesTest {
    private static final int LEAST = Integer.MIN_VALUE;
    private static final int GREATEST = Integer.MAX_VALUE;
    private static final int[] OUTSIDE = {LEAST, -6, -1, 5, 6, 25, GREATEST};
    private static final int[] NO_KINDS = {LEAST, -26, -1, 26, 27, GREATEST};

    private static final Checks checks = new Checks();
    private static final Twins twins = new Twins(checks);

    public static void main(String[] args) {
        sizesBeyondTheEnds();
        newObjectsHaveNothing();
        wallSoAlready();
        wallOfABlock();
        wallNoSuchCell();
        blockWhenThereAreEight();
        blockNoSuchKind();
        blockWithoutCells();
        blocksWithoutCellsAreAlike();
        cellOfAWall();
        cellOfSomeBlock();
        cellNoSuchBlock();
        cellNoSuchCell();
        placeWithoutCells();
        placeNoSuchBlock();
        slideBelowOne();
        slideNotMoreThanN();
        slideToTheSides();
        slideToWallsAndBlocks();
        slideNoSuchBlockOrWay();
        goalWhenThereAreSix();
        goalNoSuchBlockOrCell();
        kindGoalWhenThereAreSix();
        kindGoalNoSuchCell();
        kindGoalNoSuchKind();
        kindGoalLooksAtTheCellFirst();
        noGoalsOfNone();
        openOfNone();
        openIsTheLeast();
        pictureEnds();
        pictureLetters();
        checks.end();
    }

    private static int sized(int asked) {
        return asked < 1 ? 1 : asked > 5 ? 5 : asked;
    }

    /** Runs a test on every size of a board. */
    private static void onAllSizes(Sized test) {
        for (int width = 1; width <= 5; width++) {
            for (int height = 1; height <= 5; height++) {
                test.run(width, height);
            }
        }
    }

    private interface Sized {
        void run(int width, int height);
    }

    /** A call with a cell, on a board, that throws just when there is no such cell. */
    private interface CellCall {
        Object answer(SlideBoards boards, int x, int y);
    }

    private static void throwsJustOutside(String what, Supplier<SlideBoards> made, CellCall call) {
        for (int y = -2; y <= 6; y++) {
            for (int x = -2; x <= 6; x++) {
                SlideBoards boards = made.get();
                int width = Builders.pictureOf(boards).indexOf('\n');
                int height = Builders.pictureOf(boards).length() / (width + 1);
                boolean isThere = x >= 0 && x < width && y >= 0 && y < height;
                int column = x;
                int row = y;
                Object outcome = Checks.outcomeOf(() -> call.answer(boards, column, row));
                checks.same(what + " at " + x + " " + y + " of " + width + " by " + height + " throws",
                        outcome.equals(Twins.NO_INDEX), !isThere);
            }
        }
    }

    private static void farOutsideLeavesNoTrace(String what, Object due, CellCall call) {
        for (int outside : OUTSIDE) {
            twins.noTraceAnywhere(what + " x " + outside, boards -> call.answer(boards, outside, 0), due);
            twins.noTraceAnywhere(what + " y " + outside, boards -> call.answer(boards, 0, outside), due);
        }
        twins.noTrace(what + " just right of a row", Builders::busy, boards -> call.answer(boards, 4, 1), due);
        twins.noTrace(what + " just left of a row", Builders::busy, boards -> call.answer(boards, -1, 1), due);
        twins.noTrace(what + " just below", Builders::busy, boards -> call.answer(boards, 1, 3), due);
        twins.noTrace(what + " just above", Builders::busy, boards -> call.answer(boards, 1, -1), due);
    }

    /** One block of one cell. */
    private static SlideBoards single(int width, int height, int x, int y) {
        SlideBoards boards = new SlideBoards(width, height);
        boards.block(0);
        boards.cell(0, x, y);
        return boards;
    }

    /** "width and height 1 .. 5 (less counts as 1, more as 5)" */
    private static void sizesBeyondTheEnds() {
        int[] asked = {LEAST, -5, -1, 0, 1, 2, 3, 4, 5, 6, 7, 10, GREATEST};
        for (int width : asked) {
            for (int height : asked) {
                SlideBoards boards = new SlideBoards(width, height);
                String row = ".....".substring(0, sized(width)) + "\n";
                String what = "new " + width + " " + height;
                checks.same(what, Builders.pictureOf(boards), row.repeat(sized(height)));
                int right = sized(width) - 1;
                int bottom = sized(height) - 1;
                checks.same(what + " last cell", boards.wall(right, bottom, true), true);
                checks.noSuchIndex(what + " no column more", () -> boards.wall(right + 1, 0, true));
                checks.noSuchIndex(what + " no row more", () -> boards.wall(0, bottom + 1, true));
            }
        }
    }

    /** "No walls, blocks, goals, nodes." */
    private static void newObjectsHaveNothing() {
        onAllSizes((width, height) -> {
            SlideBoards boards = new SlideBoards(width, height);
            String what = "new " + width + " " + height;
            checks.same(what + " no walls", Builders.pictureOf(boards).indexOf('#'), -1);
            checks.same(what + " no wall to take away", boards.wall(0, 0, false), false);
            checks.noSuchIndex(what + " no block", () -> boards.place(0));
            checks.same(what + " no goal is open", boards.open(), -1);
            checks.same(what + " no goals", boards.noGoals(), 0);
            checks.noSuchIndex(what + " no node", () -> boards.tile(0));
            checks.same(what + " one state", boards.reach(), 1);
            checks.same(what + " no search yet", boards.states() + " " + boards.step(0), "0 -1");
        });
    }

    /** wall: "false, doing nothing, when it is so already" */
    private static void wallSoAlready() {
        twins.noTrace("a wall already", Builders::busy, boards -> boards.wall(0, 1, true), false);
        twins.noTrace("no wall already", Builders::busy, boards -> boards.wall(1, 1, false), false);
        twins.noTrace("no wall on a new board", () -> new SlideBoards(3, 2), boards -> boards.wall(2, 1, false), false);
        onAllSizes((width, height) -> {
            SlideBoards boards = new SlideBoards(width, height);
            for (int cell = 0; cell < width * height; cell++) {
                checks.same("on", boards.wall(cell % width, cell / width, true), true);
                checks.same("on again", boards.wall(cell % width, cell / width, true), false);
            }
            checks.same("all walls", Builders.pictureOf(boards), ("#####".substring(0, width) + "\n").repeat(height));
            for (int cell = 0; cell < width * height; cell++) {
                checks.same("off", boards.wall(cell % width, cell / width, false), true);
                checks.same("off again", boards.wall(cell % width, cell / width, false), false);
            }
            checks.same("on anew", boards.wall(width - 1, height - 1, true), true);
            String points = (".....".substring(0, width) + "\n").repeat(height);
            int last = points.length() - 2;
            checks.same("the last cell alone", Builders.pictureOf(boards), points.substring(0, last) + "#\n");
        });
    }

    /** wall: "false, doing nothing, when it is [..] of a block" */
    private static void wallOfABlock() {
        twins.noTrace("wall on a block", Builders::busy, boards -> boards.wall(0, 0, true), false);
        twins.noTrace("no wall on a block", Builders::busy, boards -> boards.wall(0, 0, false), false);
        twins.noTrace("wall on a block's other cell", Builders::busy, boards -> boards.wall(2, 1, true), false);
        twins.noTrace("wall on the last block", Builders::full, boards -> boards.wall(3, 1, true), false);
        SlideBoards boards = Builders.boardOf("a..");
        boards.slide(0, 0, 2);
        checks.same("wall where the block came to", boards.wall(2, 0, true), false);
        checks.same("wall where the block was", boards.wall(0, 0, true), true);
    }

    /** wall: "ArrayIndexOutOfBoundsException: there is no such cell." */
    private static void wallNoSuchCell() {
        onAllSizes((width, height) -> throwsJustOutside("wall", () -> new SlideBoards(width, height),
                (boards, x, y) -> boards.wall(x, y, true)));
        farOutsideLeavesNoTrace("wall on", Twins.NO_INDEX, (boards, x, y) -> boards.wall(x, y, true));
        farOutsideLeavesNoTrace("wall off", Twins.NO_INDEX, (boards, x, y) -> boards.wall(x, y, false));
    }

    /** block: "its number; -1 when there are 8" */
    private static void blockWhenThereAreEight() {
        SlideBoards boards = new SlideBoards(1, 1);
        for (int b = 0; b < 8; b++) {
            int next = b;
            checks.noSuchIndex("not yet block " + b, () -> boards.place(next));
            checks.same("block", boards.block(3), b);
        }
        checks.same("a ninth block", boards.block(3), -1);
        checks.same("a ninth block again", boards.block(0), -1);
        checks.noSuchIndex("there is no ninth block", () -> boards.place(8));
        twins.noTrace("a ninth block leaves the others", Builders::full, full -> full.block(7), -1);
    }

    /** block: "IllegalArgumentException: there is no such kind." */
    private static void blockNoSuchKind() {
        for (int kind : NO_KINDS) {
            twins.noTraceAnywhere("block " + kind, boards -> boards.block(kind), Twins.NO_ARGUMENT);
        }
        for (int kind = 0; kind < 26; kind++) {
            checks.same("kind " + kind, new SlideBoards(2, 2).block(kind), 0);
        }
    }

    /** block: "Without cells it has no place, and makes no steps" */
    private static void blockWithoutCells() {
        Supplier<SlideBoards> made = () -> {
            SlideBoards boards = Builders.boardOf("a..", "...");
            boards.block(0);
            return boards;
        };
        checks.same("no place", made.get().place(1), -1);
        for (int way = 0; way < 4; way++) {
            int to = way;
            twins.noTrace("one step in way " + way, made, boards -> boards.slide(1, to, 1), 0);
            twins.noTrace("many steps in way " + way, made, boards -> boards.slide(1, to, GREATEST), 0);
        }
        SlideBoards boards = made.get();
        checks.same("the other block's places alone", boards.reach(), 6);
        boards.kindGoal(0, 2, 1);
        checks.same("a search passes it by", boards.search(1, 6), 2);
        boards.goal(1, 0, 0);
        checks.same("its goal is not met", boards.search(1, 6), -1);
        boards.cell(1, 0, 1);
        checks.same("with a cell it has a place", boards.place(1), 3);
        checks.same("and makes steps", boards.slide(1, 0, 9), 2);
    }

    /** block: "such blocks of one kind are alike" */
    private static void blocksWithoutCellsAreAlike() {
        SlideBoards boards = new SlideBoards(3, 1);
        for (int b = 0; b < 8; b++) {
            boards.block(b % 2);
        }
        checks.same("eight without cells are one state", boards.reach(), 1);
        boards.cell(3, 0, 0);
        boards.cell(5, 2, 0);
        checks.same("two alike ones beside them", boards.reach(), 3);
        boards.kindGoal(0, 1, 0);
        checks.same("none of the others comes to a cell", boards.search(0, 10000), -1);
        checks.same("three states are taken in", boards.states(), 3);
    }

    /** cell: "false, doing nothing, when it is a wall" */
    private static void cellOfAWall() {
        for (int b = 0; b < 5; b++) {
            int block = b;
            twins.noTrace("cell of a wall for " + b, Builders::busy, boards -> boards.cell(block, 0, 1), false);
        }
        SlideBoards boards = Builders.boardOf("#a");
        boards.wall(0, 0, false);
        checks.same("cell that is a wall no more", boards.cell(0, 0, 0), true);
    }

    /** cell: "false, doing nothing, when it is [..] of some block" */
    private static void cellOfSomeBlock() {
        for (int b = 0; b < 5; b++) {
            int block = b;
            twins.noTrace("cell of block 0 for " + b, Builders::busy, boards -> boards.cell(block, 0, 0), false);
            twins.noTrace("cell of block 3 for " + b, Builders::busy, boards -> boards.cell(block, 3, 2), false);
        }
        twins.noTrace("cell of the last block", Builders::full, boards -> boards.cell(0, 3, 1), false);
        SlideBoards boards = Builders.boardOf("ab.");
        boards.slide(1, 0, 1);
        checks.same("cell that a block has left", boards.cell(0, 1, 0), true);
        checks.same("cell that a block has come to", boards.cell(0, 2, 0), false);
        onAllSizes((width, height) -> {
            SlideBoards one = single(width, height, 0, 0);
            for (int cell = 1; cell < width * height; cell++) {
                checks.same("every cell for one block", one.cell(0, cell % width, cell / width), true);
                checks.same("but once", one.cell(0, cell % width, cell / width), false);
            }
            checks.same("a block that fills the board", one.slide(0, 0, 1) + one.slide(0, 1, 1), 0);
            checks.same("has one state", one.reach(), 1);
        });
    }

    /** cell: "ArrayIndexOutOfBoundsException: there is no such block" */
    private static void cellNoSuchBlock() {
        noSuchBlock("cell", (boards, block) -> boards.cell(block, 1, 1));
        twins.noTrace("cell, the next block", Builders::busy, boards -> boards.cell(5, 1, 1), Twins.NO_INDEX);
    }

    /** cell: "ArrayIndexOutOfBoundsException: there is no such [..] cell." */
    private static void cellNoSuchCell() {
        onAllSizes((width, height) -> throwsJustOutside("cell", () -> {
            SlideBoards boards = new SlideBoards(width, height);
            boards.block(0);
            return boards;
        }, (boards, x, y) -> boards.cell(0, x, y)));
        farOutsideLeavesNoTrace("cell", Twins.NO_INDEX, (boards, x, y) -> boards.cell(0, x, y));
    }

    /** A call with a block's number. */
    private interface BlockCall {
        Object answer(SlideBoards boards, int block);
    }

    private static void noSuchBlock(String what, BlockCall call) {
        for (int block : new int[] {LEAST, -8, -1, 8, 9, GREATEST}) {
            twins.noTraceAnywhere(what + " of block " + block, boards -> call.answer(boards, block), Twins.NO_INDEX);
        }
        SlideBoards boards = new SlideBoards(2, 2);
        for (int blocks = 0; blocks < 8; blocks++) {
            int next = blocks;
            checks.noSuchIndex(what + " when there are " + blocks, () -> call.answer(boards, next));
            boards.block(0);
            checks.same(what + " of the last of them",
                    Checks.outcomeOf(() -> call.answer(boards, next)).equals(Twins.NO_INDEX), false);
        }
    }

    /** place: "-1 when it has no cells" */
    private static void placeWithoutCells() {
        onAllSizes((width, height) -> {
            SlideBoards boards = new SlideBoards(width, height);
            boards.block(0);
            checks.same("no cells", boards.place(0), -1);
            for (int cell = width * height - 1; cell >= 0; cell--) {
                boards.cell(0, cell % width, cell / width);
                checks.same("the least cell", boards.place(0), cell);
            }
        });
    }

    /** place: "ArrayIndexOutOfBoundsException: there is no such block." */
    private static void placeNoSuchBlock() {
        noSuchBlock("place", (boards, block) -> boards.place(block));
    }

    /** slide: "0 when n is below 1" */
    private static void slideBelowOne() {
        for (int n : new int[] {0, -1, -2, LEAST}) {
            for (int b = 0; b < 5; b++) {
                for (int way = 0; way < 4; way++) {
                    int block = b;
                    int to = way;
                    twins.noTrace("slide " + b + " " + way + " " + n, Builders::busy,
                            boards -> boards.slide(block, to, n), 0);
                }
            }
        }
    }

    /** slide: "as many as may be done, but not more than n" */
    private static void slideNotMoreThanN() {
        for (int n : new int[] {1, 2, 3, 4, 5, 6, 31, 32, GREATEST}) {
            SlideBoards boards = single(5, 5, 0, 0);
            checks.same("right, at most " + n, boards.slide(0, 0, n), Math.min(4, n));
            checks.same("is there", boards.place(0), Math.min(4, n));
            checks.same("down, at most " + n, boards.slide(0, 1, n), Math.min(4, n));
            checks.same("left, at most " + n, boards.slide(0, 2, n), Math.min(4, n));
            checks.same("up, at most " + n, boards.slide(0, 3, n), Math.min(4, n));
            checks.same("is back", boards.place(0), 0);
        }
    }

    /** A step: "it may be done when all of these are on the board": no row goes on in the next one. */
    private static void slideToTheSides() {
        onAllSizes((width, height) -> {
            for (int cell = 0; cell < width * height; cell++) {
                int x = cell % width;
                int y = cell / width;
                int[] room = {width - 1 - x, height - 1 - y, x, y};
                int[] by = {1, width, -1, -width};
                for (int way = 0; way < 4; way++) {
                    SlideBoards boards = single(width, height, x, y);
                    checks.same("to the side", boards.slide(0, way, GREATEST), room[way]);
                    checks.same("is there", boards.place(0), cell + room[way] * by[way]);
                    checks.same("not beyond it", boards.slide(0, way, 1), 0);
                    checks.same("is there still", boards.place(0), cell + room[way] * by[way]);
                }
            }
        });
        for (int way = 0; way < 4; way++) {
            int to = way;
            twins.noTrace("as wide as the board, way " + way, () -> Builders.boardOf("...", "aaa", "..."),
                    boards -> to % 2 == 0 ? boards.slide(0, to, 1) : 0, 0);
            twins.noTrace("as high as the board, way " + way, () -> Builders.boardOf(".a.", ".a.", ".a."),
                    boards -> to % 2 == 1 ? boards.slide(0, to, 1) : 0, 0);
            twins.noTrace("in opposite corners, way " + way, () -> Builders.boardOf("a..", "...", "..a"),
                    boards -> boards.slide(0, to, 1), 0);
        }
    }

    /** A step: "it may be done when all of these are [..] no walls, and no cells of other blocks" */
    private static void slideToWallsAndBlocks() {
        for (char other : new char[] {'#', 'b'}) {
            for (int way = 0; way < 4; way++) {
                int to = way;
                String[] round = {"..o..", ".....", "o.a.o", ".....", "..o.."};
                String[] beside = {".....", "..o..", ".oao.", "..o..", "....."};
                SlideBoards boards = Builders.boardOf(withOther(round, other));
                checks.same("one step to it", boards.slide(0, way, 4), 1);
                checks.same("and no more", boards.slide(0, way, 4), 0);
                twins.noTrace("none beside it", () -> Builders.boardOf(withOther(beside, other)),
                        shut -> shut.slide(0, to, 4), 0);
            }
            String[] corner = {"aa.", "a..", ".o."};
            SlideBoards held = Builders.boardOf(withOther(corner, other));
            checks.same("past it, over its own cells", held.slide(0, 1, 4), 1);
            checks.same("one cell of several is held", held.slide(0, 0, 4), 0);
        }
    }

    private static String[] withOther(String[] rows, char other) {
        String[] changed = new String[rows.length];
        for (int y = 0; y < rows.length; y++) {
            changed[y] = rows[y].replace('o', other);
        }
        return changed;
    }

    /** slide: "ArrayIndexOutOfBoundsException: there is no such block, or way." */
    private static void slideNoSuchBlockOrWay() {
        noSuchBlock("slide", (boards, block) -> boards.slide(block, 0, 1));
        noSuchBlock("slide by none", (boards, block) -> boards.slide(block, 3, 0));
        for (int way : new int[] {LEAST, -4, -1, 4, 5, 8, GREATEST}) {
            twins.noTrace("way " + way, Builders::busy, boards -> boards.slide(0, way, 1), Twins.NO_INDEX);
            twins.noTrace("way " + way + " by none", Builders::busy, boards -> boards.slide(0, way, 0), Twins.NO_INDEX);
            twins.noTrace("way " + way + " without cells", Builders::busy,
                    boards -> boards.slide(4, way, 1), Twins.NO_INDEX);
        }
    }

    /** goal: "its number; -1 when there are 6" */
    private static void goalWhenThereAreSix() {
        SlideBoards boards = Builders.boardOf("ab", "..");
        for (int g = 0; g < 6; g++) {
            checks.same("goal", boards.goal(g % 2, g % 2, 0), g);
        }
        checks.same("a seventh goal", boards.goal(0, 1, 1), -1);
        checks.same("a seventh goal again", boards.goal(0, 1, 1), -1);
        checks.same("it is not looked at", boards.open(), -1);
        checks.same("there are six", boards.noGoals(), 6);
        checks.same("the next is the first again", boards.goal(0, 1, 1), 0);
        twins.noTrace("a seventh goal leaves the others", Builders::full, full -> full.goal(2, 3, 1), -1);
    }

    /** goal: "ArrayIndexOutOfBoundsException: there is no such block, or cell." */
    private static void goalNoSuchBlockOrCell() {
        noSuchBlock("goal", (boards, block) -> boards.goal(block, 0, 0));
        onAllSizes((width, height) -> throwsJustOutside("goal", () -> single(width, height, 0, 0),
                (boards, x, y) -> boards.goal(0, x, y)));
        farOutsideLeavesNoTrace("goal", Twins.NO_INDEX, (boards, x, y) -> boards.goal(0, x, y));
        onAllSizes((width, height) -> {
            for (int cell = 0; cell < width * height; cell++) {
                SlideBoards boards = single(width, height, cell % width, cell / width);
                boards.goal(0, cell % width, cell / width);
                checks.same("every cell can be a goal", boards.open(), -1);
            }
        });
    }

    /** kindGoal: "its number; -1 when there are 6" */
    private static void kindGoalWhenThereAreSix() {
        SlideBoards boards = Builders.boardOf("ab", "..");
        for (int g = 0; g < 6; g++) {
            checks.same("goal", g % 2 == 0 ? boards.kindGoal(g % 4 / 2, g % 4 / 2, 0) : boards.goal(0, 0, 0), g);
        }
        checks.same("a seventh goal", boards.kindGoal(25, 1, 1), -1);
        checks.same("it is not looked at", boards.open(), -1);
        checks.same("nor another sort of it", boards.goal(1, 1, 1), -1);
        checks.same("there are six", boards.noGoals(), 6);
        checks.same("the next is the first again", boards.kindGoal(25, 1, 1), 0);
        twins.noTrace("a seventh goal leaves the others", Builders::full, full -> full.kindGoal(2, 3, 1), -1);
    }

    /** kindGoal: "ArrayIndexOutOfBoundsException: there is no such cell." */
    private static void kindGoalNoSuchCell() {
        onAllSizes((width, height) -> throwsJustOutside("kindGoal", () -> new SlideBoards(width, height),
                (boards, x, y) -> boards.kindGoal(0, x, y)));
        farOutsideLeavesNoTrace("kindGoal", Twins.NO_INDEX, (boards, x, y) -> boards.kindGoal(25, x, y));
    }

    /** kindGoal: "IllegalArgumentException: there is no such kind" */
    private static void kindGoalNoSuchKind() {
        for (int kind : NO_KINDS) {
            twins.noTraceAnywhere("kindGoal " + kind, boards -> boards.kindGoal(kind, 0, 0), Twins.NO_ARGUMENT);
        }
        for (int kind = 0; kind < 26; kind++) {
            SlideBoards boards = new SlideBoards(2, 2);
            checks.same("goal for kind " + kind, boards.kindGoal(kind, 1, 1), 0);
            checks.same("which no block has", boards.open(), 0);
            boards.block(kind);
            checks.same("nor one with a cell", boards.open(), 0);
            boards.cell(0, 1, 1);
            checks.same("until one is there", boards.open(), -1);
        }
    }

    /** kindGoal: "there is no such kind (looked at behind the cell)" */
    private static void kindGoalLooksAtTheCellFirst() {
        for (int kind : NO_KINDS) {
            farOutsideLeavesNoTrace("kindGoal " + kind, Twins.NO_INDEX,
                    (boards, x, y) -> boards.kindGoal(kind, x, y));
        }
    }

    /** noGoals: "All goals go: how many there were." */
    private static void noGoalsOfNone() {
        twins.noTrace("no goals on a new board", () -> new SlideBoards(3, 2), boards -> boards.noGoals(), 0);
        for (int goals = 0; goals <= 6; goals++) {
            SlideBoards boards = Builders.boardOf("a.");
            for (int g = 0; g < goals; g++) {
                boards.goal(0, 1, 0);
            }
            checks.same("goals open", boards.open(), goals == 0 ? -1 : 0);
            checks.same("goals go", boards.noGoals(), goals);
            checks.same("none is open", boards.open(), -1);
            checks.same("none to go", boards.noGoals(), 0);
            checks.same("numbers begin anew", boards.kindGoal(0, 0, 0), 0);
        }
    }

    /** open: "-1 when THE GOAL is"; without goals all of them are met. */
    private static void openOfNone() {
        checks.same("no goals, no blocks", new SlideBoards(1, 1).open(), -1);
        checks.same("no goals", Builders.boardOf("a.").open(), -1);
        twins.noTraceAnywhere("open does nothing", boards -> boards.open() < 6, true);
    }

    /** open: "The least goal that is not met" */
    private static void openIsTheLeast() {
        for (int unmet = 0; unmet < 64; unmet++) {
            SlideBoards boards = Builders.boardOf("a.");
            for (int g = 0; g < 6; g++) {
                int x = unmet >> g & 1;
                if (g % 2 == 0) {
                    boards.goal(0, x, 0);
                } else {
                    boards.kindGoal(0, x, 0);
                }
            }
            int least = unmet == 0 ? -1 : Integer.numberOfTrailingZeros(unmet);
            checks.same("least goal of " + unmet, boards.open(), least);
        }
        SlideBoards grown = Builders.boardOf(".a");
        grown.goal(0, 1, 0);
        checks.same("met at the place", grown.open(), -1);
        grown.cell(0, 0, 0);
        checks.same("not at another cell of the block", grown.open(), 0);
    }

    /** picture: "a byte 10 behind each row; -1 when there is none" */
    private static void pictureEnds() {
        onAllSizes((width, height) -> {
            SlideBoards boards = new SlideBoards(width, height);
            int length = height * (width + 1);
            for (int i = 0; i < length; i++) {
                checks.same("byte " + i, boards.picture(i), i % (width + 1) == width ? 10 : 46);
            }
            for (int i : new int[] {LEAST, -7, -1, length, length + 1, length + width, GREATEST}) {
                checks.same("no byte " + i, boards.picture(i), -1);
            }
        });
        twins.noTraceAnywhere("picture does nothing", boards -> boards.picture(99), -1);
    }

    /** picture: "# (a wall), a letter (a for kind 0, ..), or a point" */
    private static void pictureLetters() {
        for (int kind = 0; kind < 26; kind++) {
            SlideBoards boards = new SlideBoards(3, 1);
            boards.block(kind);
            boards.cell(0, 1, 0);
            boards.wall(2, 0, true);
            checks.same("kind " + kind, Builders.pictureOf(boards), "." + (char) ('a' + kind) + "#\n");
        }
    }
}
