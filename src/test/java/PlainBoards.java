import java.util.ArrayList;
import java.util.Arrays;
import java.util.Collections;
import java.util.HashSet;
import java.util.List;
import java.util.Set;
import java.util.TreeSet;

/** The document written a second time, slowly and with other means, for tests to compare with. */
final class PlainBoards {
    private static final int[] DX = {1, 0, -1, 0};
    private static final int[] DY = {0, 1, 0, -1};

    /** Where all blocks are: of each one its cells {x, y}. */
    private static final class Layout {
        final List<Set<List<Integer>>> blocks = new ArrayList<>();

        Layout copy() {
            Layout other = new Layout();
            for (Set<List<Integer>> cells : blocks) {
                other.blocks.add(new HashSet<>(cells));
            }
            return other;
        }
    }

    private static final class Found {
        final Layout layout;
        final List<Integer> moves;

        Found(Layout layout, List<Integer> moves) {
            this.layout = layout;
            this.moves = moves;
        }
    }

    private final int width;
    private final int height;
    private final Set<List<Integer>> walls = new HashSet<>();
    private final List<Integer> kinds = new ArrayList<>();
    private Layout present = new Layout();
    private final List<int[]> goals = new ArrayList<>();
    private List<Integer> moves = new ArrayList<>();
    private int states;
    private int taken;
    private final List<Integer> tiles = new ArrayList<>();
    private final Set<Set<Integer>> lines = new HashSet<>();

    PlainBoards(int width, int height) {
        this.width = width < 1 ? 1 : width > 5 ? 5 : width;
        this.height = height < 1 ? 1 : height > 5 ? 5 : height;
    }

    private void needCell(int x, int y) {
        if (!onBoard(List.of(x, y))) {
            throw new ArrayIndexOutOfBoundsException();
        }
    }

    private boolean onBoard(List<Integer> cell) {
        return cell.get(0) >= 0 && cell.get(0) < width && cell.get(1) >= 0 && cell.get(1) < height;
    }

    private void needBlock(int block) {
        if (block < 0 || block >= kinds.size()) {
            throw new ArrayIndexOutOfBoundsException();
        }
    }

    private void needKind(int kind) {
        if (kind < 0 || kind > 25) {
            throw new IllegalArgumentException();
        }
    }

    private void needNode(int node) {
        if (node < 0 || node >= tiles.size()) {
            throw new ArrayIndexOutOfBoundsException();
        }
    }

    private int blockAt(Layout layout, List<Integer> cell) {
        for (int b = 0; b < layout.blocks.size(); b++) {
            if (layout.blocks.get(b).contains(cell)) {
                return b;
            }
        }
        return -1;
    }

    boolean wall(int x, int y, boolean on) {
        needCell(x, y);
        List<Integer> cell = List.of(x, y);
        if (blockAt(present, cell) >= 0) {
            return false;
        }
        return on ? walls.add(cell) : walls.remove(cell);
    }

    int block(int kind) {
        needKind(kind);
        if (kinds.size() == 8) {
            return -1;
        }
        kinds.add(kind);
        present.blocks.add(new HashSet<>());
        return kinds.size() - 1;
    }

    boolean cell(int block, int x, int y) {
        needBlock(block);
        needCell(x, y);
        List<Integer> cell = List.of(x, y);
        if (walls.contains(cell) || blockAt(present, cell) >= 0) {
            return false;
        }
        return present.blocks.get(block).add(cell);
    }

    private int placeIn(Layout layout, int block) {
        int least = -1;
        for (List<Integer> cell : layout.blocks.get(block)) {
            int number = width * cell.get(1) + cell.get(0);
            if (least < 0 || number < least) {
                least = number;
            }
        }
        return least;
    }

    int place(int block) {
        needBlock(block);
        return placeIn(present, block);
    }

    private boolean makeStep(Layout layout, int block, int way) {
        Set<List<Integer>> after = new HashSet<>();
        for (List<Integer> cell : layout.blocks.get(block)) {
            List<Integer> to = List.of(cell.get(0) + DX[way], cell.get(1) + DY[way]);
            int other = blockAt(layout, to);
            if (!onBoard(to) || walls.contains(to) || other >= 0 && other != block) {
                return false;
            }
            after.add(to);
        }
        if (after.isEmpty()) {
            return false;
        }
        layout.blocks.set(block, after);
        return true;
    }

    int slide(int block, int way, int n) {
        needBlock(block);
        if (way < 0 || way > 3) {
            throw new ArrayIndexOutOfBoundsException();
        }
        int done = 0;
        while (done < n && makeStep(present, block, way)) {
            done++;
        }
        return done;
    }

    int goal(int block, int x, int y) {
        needBlock(block);
        needCell(x, y);
        return addGoal(new int[] {0, block, width * y + x});
    }

    int kindGoal(int kind, int x, int y) {
        needCell(x, y);
        needKind(kind);
        return addGoal(new int[] {1, kind, width * y + x});
    }

    private int addGoal(int[] goal) {
        if (goals.size() == 6) {
            return -1;
        }
        goals.add(goal);
        return goals.size() - 1;
    }

    int noGoals() {
        int count = goals.size();
        goals.clear();
        return count;
    }

    private boolean isMet(Layout layout, int[] goal) {
        for (int b = 0; b < kinds.size(); b++) {
            if ((goal[0] == 0 ? b : kinds.get(b)) == goal[1] && placeIn(layout, b) == goal[2]) {
                return true;
            }
        }
        return false;
    }

    private int openIn(Layout layout) {
        for (int g = 0; g < goals.size(); g++) {
            if (!isMet(layout, goals.get(g))) {
                return g;
            }
        }
        return -1;
    }

    int open() {
        return openIn(present);
    }

    /** Blocks of one kind and shape at one place have the same text, in whatever order they come. */
    private String nameOf(Layout layout) {
        List<String> names = new ArrayList<>();
        for (int b = 0; b < kinds.size(); b++) {
            TreeSet<Integer> cells = new TreeSet<>();
            for (List<Integer> cell : layout.blocks.get(b)) {
                cells.add(width * cell.get(1) + cell.get(0));
            }
            names.add(kinds.get(b) + ":" + cells);
        }
        names.sort(null);
        return names.toString();
    }

    /** The moves to THE GOAL, or null, with taken telling how many states were taken in, most + 1 if it was too few. */
    private List<Integer> explore(int measure, int most, boolean toGoal) {
        Set<String> names = new HashSet<>();
        List<Found> queue = new ArrayList<>();
        names.add(nameOf(present));
        queue.add(new Found(present.copy(), List.of()));
        taken = 1;
        if (toGoal && openIn(present) == -1) {
            return List.of();
        }
        for (int at = 0; at < queue.size(); at++) {
            Found from = queue.get(at);
            for (int b = 0; b < kinds.size(); b++) {
                for (int way = 0; way < 4; way++) {
                    Layout layout = from.layout.copy();
                    for (int n = 1; (measure == 1 || n == 1) && makeStep(layout, b, way); n++) {
                        if (!names.add(nameOf(layout))) {
                            continue;
                        }
                        taken++;
                        if (taken > most) {
                            return null;
                        }
                        List<Integer> path = new ArrayList<>(from.moves);
                        path.add(32 * n + 4 * b + way);
                        queue.add(new Found(layout.copy(), path));
                        if (toGoal && openIn(layout) == -1) {
                            return path;
                        }
                    }
                }
            }
        }
        return null;
    }

    int search(int measure, int most) {
        if (measure != 0 && measure != 1 || most < 1 || most > 10000) {
            return -3;
        }
        List<Integer> path = explore(measure, most, true);
        states = Math.min(taken, most);
        moves = path == null ? List.of() : path;
        return path != null ? path.size() : taken > most ? -2 : -1;
    }

    int step(int k) {
        return k < 0 || k >= moves.size() ? -1 : moves.get(k);
    }

    int states() {
        return states;
    }

    int reach() {
        int count = countStates(10000);
        return count > 10000 ? -2 : count;
    }

    /** How many states can be come to; most + 1 when there are more than that. */
    int countStates(int most) {
        explore(0, most, false);
        return taken;
    }

    int picture(int i) {
        StringBuilder text = new StringBuilder();
        for (int y = 0; y < height; y++) {
            for (int x = 0; x < width; x++) {
                int b = blockAt(present, List.of(x, y));
                text.append(walls.contains(List.of(x, y)) ? '#' : b < 0 ? '.' : (char) ('a' + kinds.get(b)));
            }
            text.append('\n');
        }
        return i < 0 || i >= text.length() ? -1 : text.charAt(i);
    }

    int node() {
        if (tiles.size() == 8) {
            return -1;
        }
        tiles.add(0);
        for (int i = 0; i < tiles.size(); i++) {
            tiles.set(i, i);
        }
        return tiles.size() - 1;
    }

    boolean join(int a, int b) {
        needNode(a);
        needNode(b);
        return a != b && lines.add(new HashSet<>(Arrays.asList(a, b)));
    }

    private boolean joined(int a, int b) {
        return a != b && lines.contains(new HashSet<>(Arrays.asList(a, b)));
    }

    int tile(int node) {
        needNode(node);
        return tiles.get(node);
    }

    boolean shift(int node) {
        needNode(node);
        return joined(node, tiles.indexOf(0)) && swap(node, tiles.indexOf(0));
    }

    boolean swap(int a, int b) {
        needNode(a);
        needNode(b);
        Collections.swap(tiles, a, b);
        return a != b;
    }

    /** Every colouring is tried. */
    boolean even() {
        for (int colours = 0; colours < 1 << tiles.size(); colours++) {
            boolean fits = true;
            for (int a = 0; a < tiles.size(); a++) {
                for (int b = 0; b < a; b++) {
                    fits &= !joined(a, b) || (colours >> a & 1) != (colours >> b & 1);
                }
            }
            if (fits) {
                return true;
            }
        }
        return false;
    }

    int parity() {
        int n = tiles.size();
        if (n == 0 || !even()) {
            return -1;
        }
        int far = 1000;
        int[][] lengths = new int[n][n];
        for (int a = 0; a < n; a++) {
            for (int b = 0; b < n; b++) {
                lengths[a][b] = a == b ? 0 : joined(a, b) ? 1 : far;
            }
        }
        for (int over = 0; over < n; over++) {
            for (int a = 0; a < n; a++) {
                for (int b = 0; b < n; b++) {
                    lengths[a][b] = Math.min(lengths[a][b], lengths[a][over] + lengths[over][b]);
                }
            }
        }
        int sum = 0;
        for (int a = 0; a < n; a++) {
            for (int b = a + 1; b < n; b++) {
                sum += tiles.get(a) > tiles.get(b) ? 1 : 0;
            }
        }
        int least = 0;
        while (lengths[tiles.indexOf(0)][least] >= far) {
            least++;
        }
        return (sum + lengths[tiles.indexOf(0)][least]) % 2;
    }

    private Set<List<Integer>> arrangements() {
        Set<List<Integer>> seen = new HashSet<>();
        List<List<Integer>> queue = new ArrayList<>();
        queue.add(new ArrayList<>(tiles));
        seen.add(queue.get(0));
        for (int at = 0; at < queue.size(); at++) {
            int gap = queue.get(at).indexOf(0);
            for (int node = 0; node < tiles.size(); node++) {
                if (joined(gap, node)) {
                    List<Integer> next = new ArrayList<>(queue.get(at));
                    Collections.swap(next, gap, node);
                    if (seen.add(next)) {
                        queue.add(next);
                    }
                }
            }
        }
        return seen;
    }

    int ways() {
        return tiles.isEmpty() ? 0 : arrangements().size();
    }

    boolean home() {
        List<Integer> sorted = new ArrayList<>(tiles);
        sorted.sort(null);
        return arrangements().contains(sorted);
    }
}
