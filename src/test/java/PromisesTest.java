/** Each promise of the document by itself: ordinary inputs, the edges it names, wrong inputs. */
public final class PromisesTest {
    private static final int LEAST = Integer.MIN_VALUE;
    private static final int GREATEST = Integer.MAX_VALUE;

    private static final Checks checks = new Checks();

    public static void main(String[] args) {
        promise1NewObject();
        promise2Wall();
        promise3Block();
        promise4Cell();
        promise5Place();
        promise6Slide();
        promise6SlideShapes();
        promise7Goal();
        promise8KindGoal();
        promise9NoGoals();
        promise10Open();
        promise11Search();
        promise11SearchLimits();
        promise11SearchAlike();
        promise11SearchOrder();
        promise12Step();
        promise13States();
        promise14Reach();
        promise14ReachLimit();
        promise15Picture();
        promise16Node();
        promise17Join();
        promise18Tile();
        promise19Shift();
        promise20Swap();
        promise21Even();
        promise22Parity();
        promise23Ways();
        promise24Home();
        checks.end();
    }

    private static void looks(String what, SlideBoards boards, String... rows) {
        checks.same(what, Builders.pictureOf(boards), String.join("\n", rows) + "\n");
    }

    private static void promise1NewObject() {
        looks("new 3 2", new SlideBoards(3, 2), "...", "...");
        looks("new 1 1", new SlideBoards(1, 1), ".");
        looks("new 0 -1", new SlideBoards(0, -1), ".");
        looks("new 5 5", new SlideBoards(5, 5), ".....", ".....", ".....", ".....", ".....");
        looks("new 6 2", new SlideBoards(6, 2), ".....", ".....");
        looks("new least 2", new SlideBoards(LEAST, 2), ".", ".");
        looks("new 2 greatest", new SlideBoards(2, GREATEST), "..", "..", "..", "..", "..");
        SlideBoards boards = new SlideBoards(2, 2);
        checks.noSuchIndex("new: no block", () -> boards.place(0));
        checks.noSuchIndex("new: no node", () -> boards.tile(0));
        checks.same("new: no goals", boards.noGoals(), 0);
        checks.same("new: first block", boards.block(0), 0);
        checks.same("new: first node", boards.node(), 0);
    }

    private static void promise2Wall() {
        SlideBoards boards = Builders.boardOf("a..", "...");
        checks.same("wall on", boards.wall(1, 0, true), true);
        checks.same("wall on again", boards.wall(1, 0, true), false);
        checks.same("wall in the corner", boards.wall(2, 1, true), true);
        looks("walls", boards, "a#.", "..#");
        checks.same("wall off", boards.wall(1, 0, false), true);
        checks.same("wall off again", boards.wall(1, 0, false), false);
        checks.same("wall on a block", boards.wall(0, 0, true), false);
        checks.same("wall off a block", boards.wall(0, 0, false), false);
        checks.noSuchIndex("wall x -1", () -> boards.wall(-1, 0, true));
        checks.noSuchIndex("wall x 3", () -> boards.wall(3, 0, true));
        checks.noSuchIndex("wall y -1", () -> boards.wall(0, -1, false));
        checks.noSuchIndex("wall y 2", () -> boards.wall(0, 2, false));
        checks.noSuchIndex("wall far off", () -> boards.wall(GREATEST, LEAST, true));
        looks("walls after all", boards, "a..", "..#");
    }

    private static void promise3Block() {
        SlideBoards boards = new SlideBoards(3, 3);
        checks.noSuchArgument("block -1", () -> boards.block(-1));
        checks.noSuchArgument("block 26", () -> boards.block(26));
        checks.noSuchArgument("block least", () -> boards.block(LEAST));
        for (int b = 0; b < 8; b++) {
            checks.same("block", boards.block(b == 7 ? 25 : b / 2), b);
        }
        checks.same("block too many", boards.block(0), -1);
        checks.noSuchArgument("block too many, and no kind", () -> boards.block(26));
        checks.noSuchIndex("no ninth block", () -> boards.place(8));
        checks.same("without cells no place", boards.place(7), -1);
        checks.same("without cells no steps", boards.slide(7, 0, 5), 0);
        checks.same("without cells one state", boards.reach(), 1);
        looks("without cells no picture", boards, "...", "...", "...");
    }

    private static void promise4Cell() {
        SlideBoards boards = Builders.boardOf("#..", "..a");
        checks.same("cell of a wall", boards.cell(0, 0, 0), false);
        checks.same("cell of itself", boards.cell(0, 2, 1), false);
        checks.same("cell apart", boards.cell(0, 0, 1), true);
        boards.block(1);
        checks.same("cell of another", boards.cell(1, 2, 1), false);
        checks.same("cell", boards.cell(1, 1, 0), true);
        checks.noSuchIndex("cell of block -1", () -> boards.cell(-1, 2, 0));
        checks.noSuchIndex("cell of block 2", () -> boards.cell(2, 2, 0));
        checks.noSuchIndex("cell x -1", () -> boards.cell(0, -1, 0));
        checks.noSuchIndex("cell x 3", () -> boards.cell(0, 3, 0));
        checks.noSuchIndex("cell y -1", () -> boards.cell(0, 2, -1));
        checks.noSuchIndex("cell y 2", () -> boards.cell(0, 2, 2));
        looks("cells", boards, "#b.", "a.a");
        checks.same("wall gone", boards.wall(0, 0, false), true);
        checks.same("cell where a wall was", boards.cell(0, 0, 0), true);
    }

    private static void promise5Place() {
        SlideBoards boards = Builders.boardOf("..a", "aa.", "..b");
        checks.same("place is the least cell, not the leftmost", boards.place(0), 2);
        checks.same("place in the corner", boards.place(1), 8);
        boards.cell(0, 1, 0);
        checks.same("place of a grown block", boards.place(0), 1);
        boards.block(0);
        checks.same("place without cells", boards.place(2), -1);
        checks.noSuchIndex("place of block -1", () -> boards.place(-1));
        checks.noSuchIndex("place of block 3", () -> boards.place(3));
    }

    private static void promise6Slide() {
        SlideBoards boards = Builders.boardOf("a....", "....#", ".....", "..b..", ".....");
        checks.same("right, two at most", boards.slide(0, 0, 2), 2);
        looks("right", boards, "..a..", "....#", ".....", "..b..", ".....");
        checks.same("down to the block", boards.slide(0, 1, GREATEST), 2);
        checks.same("down no more", boards.slide(0, 1, 1), 0);
        checks.same("left to the side", boards.slide(0, 2, 9), 2);
        checks.same("left not round the side", boards.slide(0, 2, 9), 0);
        checks.same("up to the side", boards.slide(0, 3, 5), 2);
        checks.same("right to the side", boards.slide(0, 0, 4), 4);
        checks.same("right not round the side", boards.slide(0, 0, 4), 0);
        checks.same("down to the wall", boards.slide(0, 1, 4), 0);
        checks.same("b down to the side", boards.slide(1, 1, 4), 1);
        checks.same("none when n is 0", boards.slide(0, 2, 0), 0);
        checks.same("none when n is less", boards.slide(0, 2, LEAST), 0);
        looks("slid", boards, "....a", "....#", ".....", ".....", "..b..");
        checks.noSuchIndex("slide block -1", () -> boards.slide(-1, 0, 1));
        checks.noSuchIndex("slide block 2", () -> boards.slide(2, 0, 1));
        checks.noSuchIndex("slide way -1", () -> boards.slide(0, -1, 1));
        checks.noSuchIndex("slide way 4", () -> boards.slide(0, 4, 0));
    }

    private static void promise6SlideShapes() {
        SlideBoards boards = Builders.boardOf("aa..", "a.b.", "..bb");
        checks.same("a right over its own cells", boards.slide(0, 0, 4), 1);
        checks.same("b is held by a", boards.slide(1, 2, 4), 0);
        looks("shapes", boards, ".aa.", ".ab.", "..bb");
        checks.same("up not over the side", boards.slide(0, 3, 1), 0);
        checks.same("down not over the side", boards.slide(1, 1, 1), 0);
        looks("shapes are whole", boards, ".aa.", ".ab.", "..bb");
        SlideBoards apart = Builders.boardOf("a.a", ".b.", "...");
        checks.same("parts go together", apart.slide(0, 1, 9), 2);
        looks("parts passed by a block", apart, "...", ".b.", "a.a");
        checks.same("b between the parts", apart.slide(1, 1, 9), 1);
        checks.same("parts are held", apart.slide(0, 0, 1), 0);
    }

    private static void promise7Goal() {
        SlideBoards boards = Builders.boardOf("a.#", "..b");
        for (int g = 0; g < 6; g++) {
            checks.same("goal", boards.goal(g % 2, g % 3, g / 3), g);
        }
        checks.same("goal too many", boards.goal(0, 0, 0), -1);
        checks.noSuchIndex("goal for block -1", () -> boards.goal(-1, 0, 0));
        checks.noSuchIndex("goal for block 2", () -> boards.goal(2, 0, 0));
        checks.noSuchIndex("goal x 3", () -> boards.goal(0, 3, 0));
        checks.noSuchIndex("goal y 2", () -> boards.goal(0, 0, 2));
        checks.noSuchIndex("goal x -1", () -> boards.goal(0, -1, 1));
        checks.noSuchIndex("goal y -1", () -> boards.goal(0, 1, -1));
        checks.same("goals", boards.noGoals(), 6);
        checks.same("goals by number again", boards.goal(0, 0, 0), 0);
    }

    private static void promise8KindGoal() {
        SlideBoards boards = Builders.boardOf("a..", "..b");
        checks.noSuchIndex("kind goal x 3", () -> boards.kindGoal(0, 3, 0));
        checks.noSuchIndex("kind goal y -1", () -> boards.kindGoal(0, 0, -1));
        checks.noSuchArgument("kind goal -1", () -> boards.kindGoal(-1, 0, 0));
        checks.noSuchArgument("kind goal 26", () -> boards.kindGoal(26, 0, 0));
        checks.noSuchIndex("kind goal: the cell first", () -> boards.kindGoal(26, 0, 2));
        checks.same("kind goal", boards.kindGoal(0, 0, 0), 0);
        checks.same("goals of both sorts", boards.goal(1, 2, 1), 1);
        checks.same("kind goal without a block", boards.kindGoal(25, 1, 1), 2);
        checks.same("kind goal not met", boards.open(), 2);
        boards.kindGoal(0, 0, 0);
        boards.kindGoal(0, 0, 0);
        checks.same("last kind goal", boards.kindGoal(0, 0, 0), 5);
        checks.same("kind goal too many", boards.kindGoal(0, 0, 0), -1);
        checks.noSuchArgument("kind goal too many, and no kind", () -> boards.kindGoal(26, 0, 0));
        checks.same("kind goals", boards.noGoals(), 6);
    }

    private static void promise9NoGoals() {
        SlideBoards boards = Builders.boardOf("a.");
        checks.same("no goals", boards.noGoals(), 0);
        boards.goal(0, 1, 0);
        boards.kindGoal(0, 1, 0);
        checks.same("two goals go", boards.noGoals(), 2);
        checks.same("none is left", boards.noGoals(), 0);
        checks.same("none is open", boards.open(), -1);
    }

    private static void promise10Open() {
        SlideBoards boards = Builders.boardOf(".aa", "b..");
        checks.same("open without goals", boards.open(), -1);
        boards.goal(0, 1, 0);
        checks.same("open: the place counts", boards.open(), -1);
        boards.goal(0, 2, 0);
        checks.same("open: another cell does not", boards.open(), 1);
        boards.noGoals();
        boards.goal(1, 2, 1);
        boards.goal(0, 0, 0);
        checks.same("open: the least", boards.open(), 0);
        boards.slide(1, 0, 2);
        checks.same("open: the next", boards.open(), 1);
        boards.slide(0, 2, 1);
        checks.same("open: all are met", boards.open(), -1);
        int empty = boards.block(1);
        boards.goal(empty, 0, 0);
        checks.same("open: no place", boards.open(), 2);
        boards.noGoals();
        boards.kindGoal(1, 2, 1);
        checks.same("open: some block of the kind", boards.open(), -1);
    }

    private static void promise11Search() {
        SlideBoards boards = Builders.boardOf("a#.", "...");
        boards.goal(0, 2, 0);
        checks.same("steps", boards.search(0, 10000), 4);
        checks.same("slides", boards.search(1, 10000), 3);
        looks("search moves nothing", boards, "a#.", "...");
        checks.same("open stays", boards.open(), 0);
        boards.goal(0, 0, 0);
        checks.same("goals against one another", boards.search(0, 10000), -1);
        boards.noGoals();
        checks.same("met at once", boards.search(1, 1), 0);
        boards.kindGoal(3, 0, 0);
        checks.same("a kind without blocks", boards.search(1, 10000), -1);
        SlideBoards two = Builders.boardOf("ab.", "...");
        two.goal(0, 1, 0);
        two.goal(1, 0, 0);
        checks.same("change places: a down, b left, a right, a up", two.search(0, 10000), 4);
        checks.same("change places in slides", two.search(1, 10000), 4);
    }

    private static void promise11SearchLimits() {
        SlideBoards boards = Builders.boardOf("a....");
        boards.goal(0, 4, 0);
        checks.same("enough", boards.search(0, 5), 4);
        checks.same("one too few", boards.search(0, 4), -2);
        checks.same("only the present one", boards.search(0, 1), -2);
        checks.same("enough in slides", boards.search(1, 5), 1);
        checks.same("too few in slides", boards.search(1, 4), -2);
        boards.goal(0, 0, 0);
        checks.same("all states fit", boards.search(0, 5), -1);
        checks.same("not all states fit", boards.search(0, 4), -2);
        checks.same("measure -1", boards.search(-1, 5), -3);
        checks.same("measure 2", boards.search(2, 5), -3);
        checks.same("most 0", boards.search(0, 0), -3);
        checks.same("most 10001", boards.search(0, 10001), -3);
        checks.same("most least", boards.search(0, LEAST), -3);
        checks.same("most 10000", boards.search(0, 10000), -1);
    }

    /** The words are taken as they stand: alike blocks that changed places are a state come to before. */
    private static void promise11SearchAlike() {
        SlideBoards boards = new SlideBoards(2, 2);
        for (int b = 0; b < 2; b++) {
            boards.block(0);
            boards.cell(b, b, 0);
        }
        boards.goal(0, 1, 0);
        boards.goal(1, 0, 0);
        checks.same("alike blocks can't change places", boards.search(0, 10000), -1);
        checks.same("six states of alike blocks", boards.states(), 6);
        boards.noGoals();
        boards.kindGoal(0, 0, 1);
        boards.kindGoal(0, 1, 1);
        checks.same("goals by kind", boards.search(0, 10000), 2);
    }

    private static void promise11SearchOrder() {
        SlideBoards boards = Builders.boardOf("...", ".a.", "...");
        boards.goal(0, 2, 2);
        checks.same("to the corner", boards.search(0, 10000), 2);
        checks.same("right is before down", boards.step(0), 32);
        checks.same("then down", boards.step(1), 33);
        checks.same("present, four ways, up to the corner", boards.states(), 6);
        SlideBoards blocks = Builders.boardOf("a..", "b..");
        blocks.goal(0, 1, 0);
        blocks.goal(1, 1, 1);
        checks.same("both to the right", blocks.search(0, 10000), 2);
        checks.same("block 0 first", blocks.step(0), 32);
        checks.same("block 1 then", blocks.step(1), 36);
    }

    private static void promise12Step() {
        SlideBoards boards = Builders.boardOf("b#.", "..a");
        checks.same("step before a search", boards.step(0), -1);
        boards.slide(0, 2, 1);
        boards.goal(1, 2, 0);
        checks.same("around the corner", boards.search(1, 10000), -1);
        checks.same("step without the goal met", boards.step(0), -1);
        boards.slide(0, 0, 1);
        boards.noGoals();
        boards.goal(1, 1, 1);
        checks.same("down and right", boards.search(1, 10000), 2);
        checks.same("step 0", boards.step(0), 32 + 4 + 1);
        checks.same("step 1", boards.step(1), 32 + 4);
        checks.same("step 2", boards.step(2), -1);
        checks.same("step -1", boards.step(-1), -1);
        checks.same("step least", boards.step(LEAST), -1);
        checks.same("step greatest", boards.step(GREATEST), -1);
        boards.slide(1, 1, 1);
        boards.reach();
        boards.noGoals();
        checks.same("refused", boards.search(0, 0), -3);
        checks.same("step 0 stays", boards.step(0), 37);
        checks.same("met", boards.search(0, 1), 0);
        checks.same("no step is needed", boards.step(0), -1);
        SlideBoards far = Builders.boardOf("a....");
        far.goal(0, 4, 0);
        far.search(1, 100);
        checks.same("four steps are one move", far.step(0), 128);
    }

    private static void promise13States() {
        SlideBoards boards = Builders.boardOf("a....");
        checks.same("states before", boards.states(), 0);
        boards.goal(0, 2, 0);
        boards.search(0, 100);
        checks.same("states to the goal", boards.states(), 3);
        boards.search(2, 100);
        checks.same("states after one refused", boards.states(), 3);
        boards.reach();
        checks.same("states after reach", boards.states(), 3);
        boards.search(0, 2);
        checks.same("states when too few", boards.states(), 2);
        boards.goal(0, 0, 0);
        boards.search(0, 100);
        checks.same("states all", boards.states(), 5);
        boards.noGoals();
        boards.search(0, 100);
        checks.same("states at once", boards.states(), 1);
    }

    private static void promise14Reach() {
        checks.same("reach without blocks", new SlideBoards(4, 4).reach(), 1);
        checks.same("reach of one block", Builders.boardOf("a..", "..#").reach(), 5);
        checks.same("reach of unlike blocks in a row", Builders.boardOf("a.b.").reach(), 6);
        checks.same("reach of unlike blocks", Builders.boardOf("ab", "..").reach(), 12);
        checks.same("reach shut in", Builders.boardOf("a#.").reach(), 1);
        SlideBoards alike = new SlideBoards(2, 2);
        alike.block(4);
        alike.block(4);
        alike.cell(0, 0, 0);
        alike.cell(1, 1, 1);
        checks.same("reach of alike blocks", alike.reach(), 6);
        alike.goal(0, 0, 0);
        checks.same("reach does not look at goals", alike.reach(), 6);
        SlideBoards shapes = new SlideBoards(2, 2);
        shapes.block(4);
        shapes.block(4);
        shapes.cell(0, 0, 0);
        shapes.cell(0, 1, 0);
        shapes.cell(1, 0, 1);
        checks.same("reach of one kind in two shapes", shapes.reach(), 2);
        shapes.cell(1, 1, 1);
        checks.same("reach of a full board", shapes.reach(), 1);
        SlideBoards passing = new SlideBoards(3, 3);
        passing.block(4);
        passing.block(4);
        passing.cell(0, 0, 0);
        passing.cell(0, 0, 1);
        passing.cell(1, 2, 0);
        checks.same("six places of the long one, seven of the short", passing.reach(), 42);
    }

    /** Three unlike single blocks on 22 open cells: 22 * 21 * 20 = 9,240 states; on 23 cells 10,626. */
    private static void promise14ReachLimit() {
        SlideBoards boards = Builders.boardOf("abc..", ".....", ".....", ".....", "..###");
        checks.same("reach below the limit", boards.reach(), 9240);
        boards.wall(2, 4, false);
        checks.same("reach beyond the limit", boards.reach(), -2);
        boards.goal(0, 0, 0);
        checks.same("search after it", boards.search(0, 10000), 0);
        SlideBoards alike = new SlideBoards(5, 5);
        for (int b = 0; b < 8; b++) {
            alike.block(0);
            alike.cell(b, b % 4, b / 4);
        }
        for (int y = 0; y < 5; y++) {
            alike.wall(4, y, true);
        }
        for (int x = 0; x < 4; x++) {
            alike.wall(x, 4, true);
        }
        checks.same("reach beyond the limit of alike blocks", alike.reach(), -2);
        alike.wall(3, 3, true);
        checks.same("eight alike blocks on 15 cells", alike.reach(), 6435);
    }

    private static void promise15Picture() {
        SlideBoards boards = new SlideBoards(3, 2);
        boards.block(25);
        boards.cell(0, 1, 0);
        boards.block(0);
        boards.cell(1, 2, 1);
        boards.wall(0, 1, true);
        looks("picture", boards, ".z.", "#.a");
        checks.same("picture point", boards.picture(0), 46);
        checks.same("picture end of a row", boards.picture(3), 10);
        checks.same("picture wall", boards.picture(4), 35);
        checks.same("picture end", boards.picture(7), 10);
        checks.same("picture behind the end", boards.picture(8), -1);
        checks.same("picture -1", boards.picture(-1), -1);
        checks.same("picture least", boards.picture(LEAST), -1);
        checks.same("picture greatest", boards.picture(GREATEST), -1);
    }

    private static void promise16Node() {
        SlideBoards boards = Builders.graphOf(3, 0, 1, 1, 2);
        boards.shift(1);
        boards.swap(0, 2);
        checks.same("tiles moved", Builders.tilesOf(boards, 3), "201");
        checks.same("node", boards.node(), 3);
        checks.same("tiles at home again", Builders.tilesOf(boards, 4), "0123");
        checks.same("lines stay", boards.join(0, 1), false);
        checks.same("the new node has none", boards.shift(3), false);
        for (int n = 4; n < 8; n++) {
            checks.same("node", boards.node(), n);
        }
        boards.swap(3, 7);
        checks.same("node too many", boards.node(), -1);
        checks.same("then tiles stay", Builders.tilesOf(boards, 8), "01274563");
    }

    private static void promise17Join() {
        SlideBoards boards = Builders.graphOf(3);
        checks.same("join", boards.join(0, 2), true);
        checks.same("join again", boards.join(0, 2), false);
        checks.same("join the other way round", boards.join(2, 0), false);
        checks.same("join one", boards.join(1, 1), false);
        checks.noSuchIndex("join -1", () -> boards.join(-1, 0));
        checks.noSuchIndex("join 3", () -> boards.join(3, 0));
        checks.noSuchIndex("join with 3", () -> boards.join(0, 3));
        checks.noSuchIndex("join no node with itself", () -> boards.join(3, 3));
        checks.noSuchIndex("join with least", () -> boards.join(0, LEAST));
        checks.same("lines go both ways", boards.shift(2) && boards.shift(0), true);
    }

    private static void promise18Tile() {
        SlideBoards boards = Builders.graphOf(2);
        checks.same("tile 0", boards.tile(0), 0);
        checks.same("tile 1", boards.tile(1), 1);
        checks.noSuchIndex("tile -1", () -> boards.tile(-1));
        checks.noSuchIndex("tile 2", () -> boards.tile(2));
        checks.noSuchIndex("tile greatest", () -> boards.tile(GREATEST));
        checks.noSuchIndex("tile without nodes", () -> Builders.graphOf(0).tile(0));
    }

    private static void promise19Shift() {
        SlideBoards boards = Builders.graphOf(4, 0, 1, 1, 2);
        checks.same("shift far off", boards.shift(2), false);
        checks.same("shift the gap", boards.shift(0), false);
        checks.same("shift not joined", boards.shift(3), false);
        checks.same("nothing was done", Builders.tilesOf(boards, 4), "0123");
        checks.same("shift 1", boards.shift(1), true);
        checks.same("shift 2", boards.shift(2), true);
        checks.same("shifted", Builders.tilesOf(boards, 4), "1203");
        checks.same("shift the gap again", boards.shift(2), false);
        checks.same("shift from afar", boards.shift(0), false);
        checks.noSuchIndex("shift -1", () -> boards.shift(-1));
        checks.noSuchIndex("shift 4", () -> boards.shift(4));
        checks.noSuchIndex("shift without nodes", () -> Builders.graphOf(0).shift(0));
    }

    private static void promise20Swap() {
        SlideBoards boards = Builders.graphOf(3, 0, 1);
        checks.same("swap", boards.swap(0, 2), true);
        checks.same("swapped", Builders.tilesOf(boards, 3), "210");
        checks.same("swap joined ones", boards.swap(1, 0), true);
        checks.same("swapped again", Builders.tilesOf(boards, 3), "120");
        checks.same("swap one", boards.swap(1, 1), false);
        checks.noSuchIndex("swap -1", () -> boards.swap(-1, 0));
        checks.noSuchIndex("swap with 3", () -> boards.swap(0, 3));
        checks.noSuchIndex("swap no node with itself", () -> boards.swap(3, 3));
        checks.same("no more was swapped", Builders.tilesOf(boards, 3), "120");
    }

    private static void promise21Even() {
        checks.same("even without nodes", Builders.graphOf(0).even(), true);
        checks.same("even without lines", Builders.graphOf(8).even(), true);
        checks.same("even square", Builders.graphOf(4, 0, 1, 1, 2, 2, 3, 3, 0).even(), true);
        checks.same("odd triangle", Builders.graphOf(3, 0, 1, 1, 2, 2, 0).even(), false);
        checks.same("odd ring of five", Builders.graphOf(5, 0, 3, 3, 1, 1, 4, 4, 2, 2, 0).even(), false);
        checks.same("odd far from the gap", Builders.graphOf(8, 0, 1, 5, 6, 6, 7, 7, 5).even(), false);
        checks.same("even in two parts", Builders.graphOf(6, 0, 5, 5, 3, 1, 4, 4, 2).even(), true);
    }

    private static void promise22Parity() {
        checks.same("parity without nodes", Builders.graphOf(0).parity(), -1);
        checks.same("parity odd graph", Builders.graphOf(3, 0, 1, 1, 2, 2, 0).parity(), -1);
        checks.same("parity of one node", Builders.graphOf(1).parity(), 0);
        SlideBoards path = Builders.graphOf(4, 0, 1, 1, 2, 2, 3);
        for (int node = 1; node < 4; node++) {
            checks.same("shift", path.shift(node), true);
            checks.same("parity stays", path.parity(), 0);
        }
        path.swap(0, 1);
        checks.same("parity after a swap", path.parity(), 1);
        // The gap's part has nodes 1, 2 and 3; its least node is 1, two lines from 3 over 2.
        SlideBoards parts = Builders.graphOf(4, 1, 2, 2, 3);
        parts.swap(0, 3);
        checks.same("five pairs and two lines", parts.parity(), 1);
        parts.shift(2);
        checks.same("tiles 3102: four pairs and one line", Builders.tilesOf(parts, 4) + parts.parity(), "31021");
        parts.shift(1);
        checks.same("tiles 3012: three pairs and no line", Builders.tilesOf(parts, 4) + parts.parity(), "30121");
        SlideBoards alone = Builders.graphOf(2);
        alone.swap(0, 1);
        checks.same("one pair, no line", alone.parity(), 1);
    }

    private static void promise23Ways() {
        checks.same("ways without nodes", Builders.graphOf(0).ways(), 0);
        checks.same("ways of one node", Builders.graphOf(1).ways(), 1);
        checks.same("ways without lines", Builders.graphOf(8).ways(), 1);
        checks.same("ways of a path", Builders.graphOf(4, 0, 1, 1, 2, 2, 3).ways(), 4);
        checks.same("ways of a triangle", Builders.graphOf(3, 0, 1, 1, 2, 2, 0).ways(), 6);
        checks.same("ways of a square", Builders.graphOf(4, 0, 1, 1, 2, 2, 3, 3, 0).ways(), 12);
        checks.same("ways of two by three", Builders.graphOf(6, 0, 1, 1, 2, 3, 4, 4, 5, 0, 3, 1, 4, 2, 5).ways(), 360);
        checks.same("ways of two by four",
                Builders.graphOf(8, 0, 1, 1, 2, 2, 3, 4, 5, 5, 6, 6, 7, 0, 4, 1, 5, 2, 6, 3, 7).ways(), 20160);
        checks.same("ways of a ring of six with a node between",
                Builders.graphOf(7, 0, 1, 1, 2, 2, 3, 3, 4, 4, 5, 5, 0, 0, 6, 6, 3).ways(), 840);
        SlideBoards parts = Builders.graphOf(5, 0, 1, 2, 3, 3, 4, 4, 2);
        checks.same("ways in the gap's part", parts.ways(), 2);
        parts.swap(0, 2);
        checks.same("ways in the other part", parts.ways(), 6);
        checks.same("ways shift nothing", Builders.tilesOf(parts, 5), "21034");
    }

    private static void promise24Home() {
        checks.same("home without nodes", Builders.graphOf(0).home(), true);
        checks.same("home at once", Builders.graphOf(8).home(), true);
        SlideBoards path = Builders.graphOf(3, 0, 1, 1, 2);
        path.shift(1);
        path.shift(2);
        checks.same("home along a path", path.home(), true);
        checks.same("home shifts nothing", Builders.tilesOf(path, 3), "120");
        path.swap(0, 1);
        checks.same("no home along a path", path.home(), false);
        SlideBoards square = Builders.graphOf(4, 0, 1, 1, 2, 2, 3, 3, 0);
        square.swap(1, 2);
        checks.same("no home after one swap", square.home(), false);
        square.swap(2, 3);
        checks.same("home round the square", square.home(), true);
        square.join(0, 2);
        square.swap(1, 2);
        checks.same("home with a line across", square.home(), true);
        SlideBoards parts = Builders.graphOf(4, 0, 1, 2, 3);
        parts.swap(0, 2);
        checks.same("no home from another part", parts.home(), false);
        parts.swap(0, 2);
        parts.swap(2, 3);
        checks.same("no home for tiles out of reach", parts.home(), false);
    }
}
