import java.util.Random;

/**
 * 'Terms': each sentence on all boards, shapes or graphs of a small size, with answers worked out
 * here and not by a search; the sentence stands above its test.
 */
public final class TermsTest {
    private static final int[] DX = {1, 0, -1, 0};
    private static final int[] DY = {0, 1, 0, -1};

    private static final Checks checks = new Checks();

    public static void main(String[] args) {
        cellsByNumber();
        blocksOfAllKinds();
        noCellTwice();
        placeIsTheLeastCell();
        stepsOnAllSmallBoards();
        stepsOneBehindTheOther();
        goalsOfBlocksAndKinds();
        theGoalIsAllOfThem();
        movesInTwoMeasures();
        oneStateByKinds();
        oneStateByShapes();
        oneStateOnAllSmallBoards();
        waysInOrder();
        blocksInOrder();
        statesInOrder();
        tilesAtFirst();
        shiftsOnAllSmallGraphs();
        checks.end();
    }

    /** "A BOARD of W by H CELLS, (x, y) is cell W y + x; some are WALLS." */
    private static void cellsByNumber() {
        for (int width = 1; width <= 5; width++) {
            for (int height = 1; height <= 5; height++) {
                for (int cell = 0; cell < width * height; cell++) {
                    int x = cell % width;
                    int y = cell / width;
                    SlideBoards boards = new SlideBoards(width, height);
                    boards.wall(x, y, true);
                    checks.same("wall " + cell, Builders.pictureOf(boards), pictured(width, height, cell, '#'));
                    boards.wall(x, y, false);
                    boards.block(3);
                    boards.cell(0, x, y);
                    checks.same("block " + cell, Builders.pictureOf(boards), pictured(width, height, cell, 'd'));
                    checks.same("place " + cell, boards.place(0), cell);
                }
            }
        }
    }

    private static String pictured(int width, int height, int cell, char shown) {
        StringBuilder text = new StringBuilder((".".repeat(width) + "\n").repeat(height));
        text.setCharAt(cell / width * (width + 1) + cell % width, shown);
        return text.toString();
    }

    /** "BLOCKS, at most 8, have a KIND 0 .. 25 and some cells each" */
    private static void blocksOfAllKinds() {
        for (int kind = 0; kind < 26; kind++) {
            SlideBoards boards = new SlideBoards(4, 4);
            for (int b = 0; b < 8; b++) {
                checks.same("block", boards.block((kind + b) % 26), b);
                checks.same("its first cell", boards.cell(b, b % 4, b / 4), true);
                checks.same("its other cell", boards.cell(b, b % 4, b / 4 + 2), true);
                checks.same("its letter", boards.picture(b / 4 * 5 + b % 4), 'a' + (kind + b) % 26);
                checks.same("its letter again", boards.picture((b / 4 + 2) * 5 + b % 4), 'a' + (kind + b) % 26);
            }
            checks.same("at most 8", boards.block(kind), -1);
        }
    }

    /** "some cells each, no two the same one, none a wall": slides leave as many of each as there were. */
    private static void noCellTwice() {
        String[][] boards = {
            {"aa..b", "a.#.b", ".c...", "cc.d.", "#..d."},
            {"a.a.", ".b.b", "....", "c..d"},
            {"abc", "..#", "dde"},
        };
        for (int seed = 0; seed < 60; seed++) {
            Random random = new Random(seed);
            String[] rows = boards[seed % boards.length];
            SlideBoards played = Builders.boardOf(rows);
            int blocks = Builders.blocksOf(played);
            for (int n = 0; n < 200; n++) {
                played.slide(random.nextInt(blocks), random.nextInt(4), 1 + random.nextInt(3));
            }
            String before = String.join("\n", rows) + "\n";
            String after = Builders.pictureOf(played);
            checks.same("walls stay", after.replaceAll("[a-z]", "."), before.replaceAll("[a-z]", "."));
            for (int b = 0; b < blocks; b++) {
                char letter = (char) ('a' + b);
                checks.same("cells of " + letter, countOf(after, letter), countOf(before, letter));
                checks.same("place of " + letter, played.place(b), after.replace("\n", "").indexOf(letter));
            }
        }
    }

    private static long countOf(String text, char letter) {
        return text.chars().filter(shown -> shown == letter).count();
    }

    /** "A block's PLACE is its least cell": all shapes on boards of nine and of eight cells. */
    private static void placeIsTheLeastCell() {
        for (int width = 3; width <= 4; width++) {
            int height = width == 3 ? 3 : 2;
            for (int shape = 1; shape < 1 << width * height; shape++) {
                SlideBoards boards = new SlideBoards(width, height);
                boards.block(0);
                for (int cell = width * height - 1; cell >= 0; cell--) {
                    if ((shape >> cell & 1) != 0) {
                        boards.cell(0, cell % width, cell / width);
                    }
                }
                checks.same("place of " + shape, boards.place(0), Integer.numberOfTrailingZeros(shape));
            }
        }
    }

    /** Rows of a board whose cells are the letters of these, by the digits of a number. */
    private static String[] rowsOf(int number, int width, int height, String letters) {
        String[] rows = new String[height];
        int rest = number;
        for (int y = 0; y < height; y++) {
            StringBuilder row = new StringBuilder();
            for (int x = 0; x < width; x++) {
                row.append(letters.charAt(rest % letters.length()));
                rest /= letters.length();
            }
            rows[y] = row.toString();
        }
        return rows;
    }

    /** The rows behind a step of a letter's cells; null when it may not be done. */
    private static String[] stepped(String[] rows, char letter, int way) {
        String[] after = new String[rows.length];
        for (int y = 0; y < rows.length; y++) {
            after[y] = rows[y].replace(letter, '.');
        }
        for (int y = 0; y < rows.length; y++) {
            for (int x = 0; x < rows[y].length(); x++) {
                if (rows[y].charAt(x) == letter) {
                    int toX = x + DX[way];
                    int toY = y + DY[way];
                    if (toX < 0 || toX >= rows[y].length() || toY < 0 || toY >= rows.length
                            || rows[toY].charAt(toX) != '.' && rows[toY].charAt(toX) != letter) {
                        return null;
                    }
                    after[toY] = after[toY].substring(0, toX) + letter + after[toY].substring(toX + 1);
                }
            }
        }
        return after;
    }

    private static String textOf(String[] rows) {
        return String.join("\n", rows) + "\n";
    }

    /**
     * "A STEP takes all cells of a block by one in a WAY: 0 right, 1 down, 2 left, 3 up; it may be done
     * when all of these are on the board, no walls, and no cells of other blocks."
     */
    private static void stepsOnAllSmallBoards() {
        for (int number = 0; number < 4096; number++) {
            stepsOn(rowsOf(number, 3, 2, ".#ab"));
            stepsOn(rowsOf(number, 2, 3, ".#ab"));
        }
    }

    private static void stepsOn(String[] rows) {
        SlideBoards boards = Builders.boardOf(rows);
        int block = 0;
        for (char letter = 'a'; letter <= 'b'; letter++) {
            if (textOf(rows).indexOf(letter) < 0) {
                continue;
            }
            for (int way = 0; way < 4; way++) {
                String what = textOf(rows) + letter + " in way " + way;
                String[] after = stepped(rows, letter, way);
                checks.same(what, boards.slide(block, way, 1), after == null ? 0 : 1);
                checks.same(what + " shows", Builders.pictureOf(boards), textOf(after == null ? rows : after));
                boards.slide(block, (way + 2) % 4, after == null ? 0 : 1);
            }
            block++;
        }
        checks.same("all steps taken back", Builders.pictureOf(boards), textOf(rows));
    }

    /** "any number of steps of one block in one way, one behind the other" */
    private static void stepsOneBehindTheOther() {
        for (int number = 0; number < 1024; number++) {
            String[] rows = rowsOf(number, 5, 1, ".#ab");
            String[] column = rows[0].split("");
            if (rows[0].indexOf('a') >= 0) {
                slidesOn(rows, 0);
                slidesOn(rows, 2);
                slidesOn(column, 1);
                slidesOn(column, 3);
            }
        }
    }

    private static void slidesOn(String[] rows, int way) {
        SlideBoards boards = Builders.boardOf(rows);
        for (int n = 1; n <= 5; n++) {
            String[] after = rows;
            int done = 0;
            for (String[] next = stepped(after, 'a', way); done < n && next != null; next = stepped(after, 'a', way)) {
                after = next;
                done++;
            }
            checks.same(textOf(rows) + n + " steps in way " + way, boards.slide(0, way, n), done);
            checks.same(textOf(rows) + n + " steps show", Builders.pictureOf(boards), textOf(after));
            boards.slide(0, (way + 2) % 4, done);
        }
    }

    /** "it is met when this is the block's place, or the place of some block of the kind" */
    private static void goalsOfBlocksAndKinds() {
        int[] kinds = {4, 4, 7};
        for (int number = 0; number < 216; number++) {
            int[] places = {number % 6, number / 6 % 6, number / 36};
            if (places[0] == places[1] || places[1] == places[2] || places[0] == places[2]) {
                continue;
            }
            SlideBoards boards = new SlideBoards(3, 2);
            for (int b = 0; b < 3; b++) {
                boards.block(kinds[b]);
                boards.cell(b, places[b] % 3, places[b] / 3);
            }
            for (int cell = 0; cell < 6; cell++) {
                for (int b = 0; b < 3; b++) {
                    boards.goal(b, cell % 3, cell / 3);
                    checks.same("goal of a block", boards.open(), places[b] == cell ? -1 : 0);
                    boards.noGoals();
                }
                for (int kind = 3; kind <= 7; kind++) {
                    boards.kindGoal(kind, cell % 3, cell / 3);
                    boolean met = kind == 4 && (places[0] == cell || places[1] == cell) || kind == 7 && places[2] == cell;
                    checks.same("goal of a kind", boards.open(), met ? -1 : 0);
                    boards.noGoals();
                }
            }
        }
    }

    /** "THE GOAL is that all of them are": two blocks in rows of their own, and a goal for each. */
    private static void theGoalIsAllOfThem() {
        for (int number = 0; number < 81; number++) {
            int firstFrom = number % 3;
            int firstTo = number / 3 % 3;
            int secondFrom = number / 9 % 3;
            int secondTo = number / 27;
            SlideBoards boards = new SlideBoards(3, 3);
            boards.block(0);
            boards.cell(0, firstFrom, 0);
            boards.block(1);
            boards.cell(1, secondFrom, 2);
            boards.goal(0, firstTo, 0);
            boards.kindGoal(1, secondTo, 2);
            int apart = Math.abs(firstFrom - firstTo) + Math.abs(secondFrom - secondTo);
            checks.same("steps of both", boards.search(0, 10000), apart);
            int slides = (firstFrom == firstTo ? 0 : 1) + (secondFrom == secondTo ? 0 : 1);
            checks.same("slides of both", boards.search(1, 10000), slides);
            checks.same("open", boards.open(), firstFrom != firstTo ? 0 : secondFrom != secondTo ? 1 : -1);
        }
    }

    /**
     * "A MOVE is (measure 0) a step, or (measure 1) any number of steps of one block in one way, one
     * behind the other." A block alone goes from any cell to any other; of the shortest roads the search
     * comes first to the one with the lesser way first.
     */
    private static void movesInTwoMeasures() {
        for (int from = 0; from < 25; from++) {
            for (int to = 0; to < 25; to++) {
                SlideBoards boards = new SlideBoards(5, 5);
                boards.block(0);
                boards.cell(0, from % 5, from / 5);
                boards.goal(0, to % 5, to / 5);
                int[] steps = stepsByWay(to % 5 - from % 5, to / 5 - from / 5);
                String what = "from " + from + " to " + to;
                int inSteps = boards.search(0, 25);
                int inSlides = 0;
                int k = 0;
                for (int way = 0; way < 4; way++) {
                    for (int n = 0; n < steps[way]; n++) {
                        checks.same(what + " step " + k, boards.step(k), 32 + way);
                        k++;
                    }
                    inSlides += steps[way] > 0 ? 1 : 0;
                }
                checks.same(what + " in steps", inSteps, k);
                checks.same(what + " in slides", boards.search(1, 25), inSlides);
                k = 0;
                for (int way = 0; way < 4; way++) {
                    if (steps[way] > 0) {
                        checks.same(what + " slide " + k, boards.step(k), 32 * steps[way] + way);
                        k++;
                    }
                }
                checks.same(what + " no more", boards.step(k), -1);
            }
        }
    }

    private static int[] stepsByWay(int right, int down) {
        return new int[] {Math.max(0, right), Math.max(0, down), Math.max(0, -right), Math.max(0, -down)};
    }

    /** "Two STATES are one when each block of the one is where a block of the same kind [..] is in the other" */
    private static void oneStateByKinds() {
        // Three single blocks on six cells, and four on nine: with so much room every lay-out is come to.
        checks.same("three unlike", reachOf(3, 2, 0, 1, 2), 6 * 5 * 4);
        checks.same("two alike, one not", reachOf(3, 2, 0, 0, 1), 6 * 5 * 4 / 2);
        checks.same("alike ones not next in number", reachOf(3, 2, 5, 1, 5), 6 * 5 * 4 / 2);
        checks.same("three alike", reachOf(3, 2, 25, 25, 25), 6 * 5 * 4 / 6);
        checks.same("four unlike", reachOf(3, 3, 0, 1, 2, 3), 9 * 8 * 7 * 6);
        checks.same("two pairs", reachOf(3, 3, 0, 1, 0, 1), 9 * 8 * 7 * 6 / 4);
        checks.same("two pairs, one inside the other", reachOf(3, 3, 0, 1, 1, 0), 9 * 8 * 7 * 6 / 4);
        checks.same("three and one", reachOf(3, 3, 2, 2, 2, 9), 9 * 8 * 7 * 6 / 6);
        checks.same("four alike", reachOf(3, 3, 0, 0, 0, 0), 9 * 8 * 7 * 6 / 24);
    }

    private static int reachOf(int width, int height, int... kinds) {
        SlideBoards boards = new SlideBoards(width, height);
        for (int b = 0; b < kinds.length; b++) {
            boards.block(kinds[b]);
            boards.cell(b, b % width, b / width);
        }
        return boards.reach();
    }

    /** "(the shapes: where a block's cells are, seen from its place), none of them used twice" */
    private static void oneStateByShapes() {
        // Upright pairs have 9 places each; in a column, 2 of 9 lay-outs do: 9 * 9 - 3 * 7 = 60.
        checks.same("alike pairs", reachOfKinds(0, 0, "ab.", "ab.", "...", "..."), 30);
        checks.same("unlike pairs", reachOfKinds(0, 1, "ab.", "ab.", "...", "..."), 60);
        // A lying and an upright pair: of one kind or of two, they are told apart.
        checks.same("one kind, two shapes", reachOfKinds(0, 0, "aa.", "..b", "..b"),
                reachOfKinds(0, 1, "aa.", "..b", "..b"));
        // As many cells each, but one pair stands apart.
        checks.same("one kind, one pair apart", reachOfKinds(3, 3, "aa.", "...", "b.b"),
                reachOfKinds(3, 4, "aa.", "...", "b.b"));
        // Seen from their places the slants have their other cells at different sides.
        checks.same("one kind, two slants", reachOfKinds(3, 3, "a..b", ".ab.", "....", "...."),
                reachOfKinds(3, 4, "a..b", ".ab.", "....", "...."));
        checks.same("alike slants", 2 * reachOfKinds(3, 3, "a.b.", ".a.b", "....", "...."),
                reachOfKinds(3, 4, "a.b.", ".a.b", "....", "...."));
    }

    /** Blocks a and b with these kinds. */
    private static SlideBoards boardOfKinds(int firstKind, int secondKind, String... rows) {
        SlideBoards boards = new SlideBoards(rows[0].length(), rows.length);
        boards.block(firstKind);
        boards.block(secondKind);
        for (int y = 0; y < rows.length; y++) {
            for (int x = 0; x < rows[y].length(); x++) {
                char shown = rows[y].charAt(x);
                if (shown == '#') {
                    boards.wall(x, y, true);
                } else if (shown != '.') {
                    boards.cell(shown - 'a', x, y);
                }
            }
        }
        return boards;
    }

    private static int reachOfKinds(int firstKind, int secondKind, String... rows) {
        return boardOfKinds(firstKind, secondKind, rows).reach();
    }

    /** The same on all boards of six cells, counted by the plain writing, which compares cells and not shapes. */
    private static void oneStateOnAllSmallBoards() {
        for (int number = 0; number < 729; number++) {
            for (int second = 0; second < 2; second++) {
                String[] rows = rowsOf(number, 3, 2, ".ab");
                PlainBoards plain = new PlainBoards(3, 2);
                plain.block(0);
                plain.block(second);
                for (int cell = 0; cell < 6; cell++) {
                    char shown = rows[cell / 3].charAt(cell % 3);
                    if (shown != '.') {
                        plain.cell(shown - 'a', cell % 3, cell / 3);
                    }
                }
                SlideBoards boards = boardOfKinds(0, second, rows);
                checks.same(textOf(rows) + "kinds 0 and " + second, boards.reach(), plain.reach());
                boards.kindGoal(25, 0, 0);
                checks.same("no goal to be met", boards.search(1, 10000), -1);
                checks.same("slides come to as many", boards.states(), plain.reach());
            }
        }
    }

    /** THE SEARCH: from each state "ways 0 .. 3, in measure 1 one step, two, and so on" */
    private static void waysInOrder() {
        int[] next = {13, 17, 11, 7};
        int[] beyond = {14, 22, 10, 2};
        for (int way = 0; way < 4; way++) {
            SlideBoards boards = Builders.boardOf(".....", ".....", "..a..", ".....", ".....");
            boards.goal(0, next[way] % 5, next[way] / 5);
            checks.same("one step", boards.search(0, 10000) + " " + boards.states(), "1 " + (2 + way));
            checks.same("one slide", boards.search(1, 10000) + " " + boards.states(), "1 " + (2 + 2 * way));
            boards.noGoals();
            boards.goal(0, beyond[way] % 5, beyond[way] / 5);
            checks.same("a slide of two", boards.search(1, 10000) + " " + boards.states(), "1 " + (3 + 2 * way));
            checks.same("told so", boards.step(0), 64 + way);
        }
    }

    /** THE SEARCH: from each state "blocks by number", not by kind or by cell. */
    private static void blocksInOrder() {
        SlideBoards boards = new SlideBoards(2, 4);
        int[] kinds = {9, 3, 25, 0};
        int[] rows = {2, 0, 3, 1};
        for (int b = 0; b < 4; b++) {
            boards.block(kinds[b]);
            boards.cell(b, 0, rows[b]);
        }
        for (int b = 0; b < 4; b++) {
            boards.goal(b, 1, rows[b]);
            checks.same("block " + b, boards.search(0, 10000) + " " + boards.states(), "1 " + (2 + b));
            checks.same("told so", boards.step(0), 32 + 4 * b);
            boards.noGoals();
        }
    }

    /** THE SEARCH: states "in the order in which they are come to": all of one move before those of two. */
    private static void statesInOrder() {
        // From the corner cells are come to by rising distance, and right before down among those alike far.
        int[] order = {0, 1, 3, 2, 4, 6, 5, 7, 8};
        int[] far = {0, 1, 1, 2, 2, 2, 3, 3, 4};
        for (int n = 0; n < 9; n++) {
            SlideBoards boards = Builders.boardOf("a..", "...", "...");
            boards.goal(0, order[n] % 3, order[n] / 3);
            checks.same("cell " + order[n], boards.search(0, 9) + " " + boards.states(), far[n] + " " + (n + 1));
        }
        // By slides: the row to the right, the column down, and then from each of these.
        int[] slid = {0, 1, 2, 3, 6, 4, 7, 5, 8};
        for (int n = 0; n < 9; n++) {
            SlideBoards boards = Builders.boardOf("a..", "...", "...");
            boards.goal(0, slid[n] % 3, slid[n] / 3);
            checks.same("cell " + slid[n] + " in slides", boards.search(1, 9) + " " + boards.states(),
                    (n == 0 ? 0 : n < 5 ? 1 : 2) + " " + (n + 1));
        }
    }

    /** "at each node is a TILE, at first that of the same number; tile 0 is THE GAP" */
    private static void tilesAtFirst() {
        for (int nodes = 1; nodes <= 8; nodes++) {
            SlideBoards boards = Builders.graphOf(nodes);
            checks.same("tiles", Builders.tilesOf(boards, nodes), "01234567".substring(0, nodes));
            for (int node = 1; node < nodes; node++) {
                boards.join(0, node);
            }
            for (int node = 1; node < nodes; node++) {
                checks.same("to the gap at node 0", boards.shift(node), true);
                checks.same("the gap is here", boards.tile(node), 0);
                checks.same("the tile is there", boards.tile(0), node);
                checks.same("back", boards.shift(0), true);
            }
        }
    }

    /**
     * "A SHIFT: a tile at a node joined to that of THE GAP changes places with it", and what the graph's
     * questions answer then: all graphs of four nodes with tiles in all ways, all of five with few.
     */
    private static void shiftsOnAllSmallGraphs() {
        for (int lines = 0; lines < 64; lines++) {
            for (int way = 0; way < 24; way++) {
                shiftsOn(4, lines, new int[] {way % 4, way / 4 % 3, way / 12});
            }
        }
        for (int lines = 0; lines < 1024; lines++) {
            shiftsOn(5, lines, new int[] {0});
            shiftsOn(5, lines, new int[] {lines % 5, lines % 4, 2});
        }
    }

    private static void shiftsOn(int nodes, int lines, int[] swaps) {
        SlideBoards boards = Builders.graphOf(nodes);
        PlainBoards plain = new PlainBoards(1, 1);
        for (int node = 0; node < nodes; node++) {
            plain.node();
        }
        int line = 0;
        for (int a = 0; a < nodes; a++) {
            for (int b = 0; b < a; b++) {
                if ((lines >> line & 1) != 0) {
                    boards.join(a, b);
                    plain.join(a, b);
                }
                line++;
            }
        }
        for (int node = 0; node < swaps.length; node++) {
            boards.swap(node, node + swaps[node]);
            plain.swap(node, node + swaps[node]);
        }
        String what = nodes + " nodes, lines " + lines + ", tiles " + Builders.tilesOf(boards, nodes) + " ";
        asksAlike(what, boards, plain);
        int gap = Builders.tilesOf(boards, nodes).indexOf('0');
        for (int node = 0; node < nodes; node++) {
            checks.same(what + "shift " + node, boards.shift(node), plain.shift(node));
            for (int at = 0; at < nodes; at++) {
                checks.same(what + "tile " + at + " behind shift " + node, boards.tile(at), plain.tile(at));
            }
            boards.shift(gap);
            plain.shift(gap);
        }
    }

    private static void asksAlike(String what, SlideBoards boards, PlainBoards plain) {
        checks.same(what + "even", boards.even(), plain.even());
        checks.same(what + "parity", boards.parity(), plain.parity());
        checks.same(what + "ways", boards.ways(), plain.ways());
        checks.same(what + "home", boards.home(), plain.home());
    }
}
