import java.util.ArrayDeque;
import java.util.ArrayList;
import java.util.Arrays;
import java.util.Deque;
import java.util.HashMap;
import java.util.HashSet;
import java.util.List;
import java.util.Map;
import java.util.Set;
import java.util.TreeMap;
import java.util.TreeSet;

/** The document once more, in another way and without a care for speed, so that ModelTest can compare the two. */
final class Model {
    /** Everything that undo brings back. A cell is a row and a column; a cut is named by the cells at it. */
    private static final class State {
        int w = 4;
        int h = 4;
        int[][] ice = new int[7][7];
        Set<String> cuts = new HashSet<>();
        int melt = 1;
        int days = 0;
        int laid = 0;
        int melted = 0;
        List<int[]> taken = new ArrayList<>();

        State copy() {
            State s = new State();
            s.w = w;
            s.h = h;
            s.ice = new int[7][];
            for (int r = 0; r < 7; r++) {
                s.ice[r] = ice[r].clone();
            }
            s.cuts = new HashSet<>(cuts);
            s.melt = melt;
            s.days = days;
            s.laid = laid;
            s.melted = melted;
            s.taken = new ArrayList<>(taken);
            return s;
        }

        boolean in(int r, int c) {
            return r >= 0 && r < h && c >= 0 && c < w;
        }

        boolean isIce(int r, int c) {
            return in(r, c) && ice[r][c] > 0;
        }

        /** Water, with the open water below the last row, but neither shore nor walls. */
        boolean isWater(int r, int c) {
            return c >= 0 && c < w && r >= 0 && (r >= h || ice[r][c] == 0);
        }
    }

    // By side: right, below, above, left.
    private static final int[] SIDE_R = {0, 1, -1, 0};
    private static final int[] SIDE_C = {1, 0, 0, -1};
    // By move: left, right, up, down.
    private static final int[] MOVE_R = {0, 0, -1, 1};
    private static final int[] MOVE_C = {-1, 1, 0, 0};

    private State now = new State();
    private final Deque<State> saved = new ArrayDeque<>();
    private String text = "";

    Model() {
        fill(now, 10);
        now.laid = 160;
    }

    private static void fill(State s, int thickness) {
        for (int r = 0; r < s.h; r++) {
            Arrays.fill(s.ice[r], 0, s.w, thickness);
        }
    }

    private void save() {
        saved.addLast(now.copy());
        if (saved.size() > 4) {
            saved.removeFirst();
        }
    }

    private static void need(boolean holds, RuntimeException otherwise) {
        if (!holds) {
            throw otherwise;
        }
    }

    private static void argument(int value, int least, int most) {
        need(value >= least && value <= most, new IllegalArgumentException());
    }

    private void cellExists(int cell) {
        need(cell >= 0 && cell < now.w * now.h, new IndexOutOfBoundsException());
    }

    // ---- field

    long make(int w, int h, int thickness) {
        argument(w, 2, 7);
        argument(h, 2, 7);
        argument(thickness, 0, 50);
        save();
        State s = new State();
        s.melt = now.melt;
        s.w = w;
        s.h = h;
        fill(s, thickness);
        s.laid = w * h * thickness;
        now = s;
        return s.laid;
    }

    long lay(int cell, int more) {
        cellExists(cell);
        argument(more, 1, 50);
        int r = cell / now.w;
        int c = cell % now.w;
        need(now.ice[r][c] + more <= 50, new IllegalStateException());
        save();
        now.laid += more;
        now.ice[r][c] += more;
        return now.ice[r][c];
    }

    /** The name of the cut on a side, or null if nothing can be sawn there. */
    private static String cutName(State s, int r, int c, int side) {
        int r2 = r + SIDE_R[side];
        int c2 = c + SIDE_C[side];
        if (r2 < 0) {
            return "shore " + c;
        }
        if (!s.in(r2, c2)) {
            return null;
        }
        int a = r * 10 + c;
        int b = r2 * 10 + c2;
        return Math.min(a, b) + " " + Math.max(a, b);
    }

    private static boolean isCut(State s, int r, int c, int side) {
        String name = cutName(s, r, c, side);
        return name != null && s.cuts.contains(name);
    }

    long saw(int cell, int side) {
        cellExists(cell);
        argument(side, 0, 3);
        String name = cutName(now, cell / now.w, cell % now.w, side);
        need(name != null, new IllegalStateException());
        save();
        return now.cuts.add(name) ? 1 : 0;
    }

    private Set<String> around(int cell, int w, int h) {
        cellExists(cell);
        argument(w, 1, 7);
        argument(h, 1, 7);
        int r0 = cell / now.w;
        int c0 = cell % now.w;
        argument(c0 + w, 1, now.w);
        argument(r0 + h, 1, now.h);
        Set<String> names = new HashSet<>();
        for (int r = r0; r < r0 + h; r++) {
            for (int c = c0; c < c0 + w; c++) {
                for (int side = 0; side < 4; side++) {
                    int r2 = r + SIDE_R[side];
                    int c2 = c + SIDE_C[side];
                    boolean inside = r2 >= r0 && r2 < r0 + h && c2 >= c0 && c2 < c0 + w;
                    String name = cutName(now, r, c, side);
                    if (!inside && name != null && !now.cuts.contains(name)) {
                        names.add(name);
                    }
                }
            }
        }
        return names;
    }

    long sawAround(int cell, int w, int h) {
        Set<String> names = around(cell, w, h);
        save();
        now.cuts.addAll(names);
        return names.size();
    }

    long cutsAround(int cell, int w, int h) {
        return around(cell, w, h).size();
    }

    // ---- blocks

    /** For each number of a block its cells. */
    private static TreeMap<Integer, TreeSet<Integer>> blocks(State s) {
        int[] label = new int[s.w * s.h];
        for (int i = 0; i < label.length; i++) {
            label[i] = i;
        }
        boolean changed = true;
        while (changed) {
            changed = false;
            for (int i = 0; i < label.length; i++) {
                for (int side = 0; side < 4; side++) {
                    int r = i / s.w;
                    int c = i % s.w;
                    int r2 = r + SIDE_R[side];
                    int c2 = c + SIDE_C[side];
                    if (s.isIce(r, c) && s.isIce(r2, c2) && !isCut(s, r, c, side)
                            && label[r2 * s.w + c2] < label[i]) {
                        label[i] = label[r2 * s.w + c2];
                        changed = true;
                    }
                }
            }
        }
        TreeMap<Integer, TreeSet<Integer>> found = new TreeMap<>();
        for (int i = 0; i < label.length; i++) {
            if (s.isIce(i / s.w, i % s.w)) {
                found.computeIfAbsent(label[i], k -> new TreeSet<>()).add(i);
            }
        }
        return found;
    }

    private static TreeSet<Integer> blockAt(State s, int cell) {
        for (TreeSet<Integer> block : blocks(s).values()) {
            if (block.contains(cell)) {
                return block;
            }
        }
        return null;
    }

    private static boolean held(State s, Set<Integer> block) {
        for (int cell : block) {
            if (cell < s.w && !s.cuts.contains("shore " + cell)) {
                return true;
            }
        }
        return false;
    }

    private static int volume(State s, Set<Integer> block) {
        int sum = 0;
        for (int cell : block) {
            sum += s.ice[cell / s.w][cell % s.w];
        }
        return sum;
    }

    private static boolean lies(State s, Set<Integer> block, int dr, int dc) {
        for (int cell : block) {
            int r = cell / s.w + dr;
            int c = cell % s.w + dc;
            boolean own = s.in(r, c) && block.contains(r * s.w + c);
            if (!own && !s.isWater(r, c)) {
                return false;
            }
        }
        return true;
    }

    private static boolean out(State s, Set<Integer> block, int dr) {
        for (int cell : block) {
            if (cell / s.w + dr < s.h) {
                return false;
            }
        }
        return true;
    }

    /**
     * The moves of the way of a loose block, or null. How far it is from each position to the outside is
     * found backwards; the way then takes the first move, in the order of the moves, that comes nearer.
     */
    private static List<Integer> way(State s, Set<Integer> block) {
        Map<Integer, Integer> far = new HashMap<>();
        for (int round = 0; round < 400; round++) {
            boolean changed = false;
            for (int dr = -8; dr <= 9; dr++) {
                for (int dc = -8; dc <= 8; dc++) {
                    if (far.containsKey(dr * 100 + dc) || !lies(s, block, dr, dc)) {
                        continue;
                    }
                    boolean reaches = round == 0 && out(s, block, dr);
                    for (int m = 0; m < 4 && round > 0; m++) {
                        reaches |= far.getOrDefault((dr + MOVE_R[m]) * 100 + dc + MOVE_C[m], -1) == round - 1;
                    }
                    if (reaches) {
                        far.put(dr * 100 + dc, round);
                        changed = true;
                    }
                }
            }
            if (!changed) {
                break;
            }
        }
        if (!far.containsKey(0)) {
            return null;
        }
        List<Integer> moves = new ArrayList<>();
        int at = 0;
        while (far.get(at) > 0) {
            for (int m = 0; m < 4; m++) {
                int then = at + MOVE_R[m] * 100 + MOVE_C[m];
                if (far.getOrDefault(then, -1) == far.get(at) - 1) {
                    moves.add(m);
                    at = then;
                    break;
                }
            }
        }
        return moves;
    }

    private static List<Integer> wayIfLoose(State s, Set<Integer> block) {
        return block == null || held(s, block) ? null : way(s, block);
    }

    private static int take(State s, TreeSet<Integer> block) {
        int volume = volume(s, block);
        for (int cell : block) {
            s.ice[cell / s.w][cell % s.w] = 0;
        }
        s.taken.add(new int[] {block.first(), volume, s.days});
        return volume;
    }

    long takeOut(int cell) {
        cellExists(cell);
        TreeSet<Integer> block = blockAt(now, cell);
        need(wayIfLoose(now, block) != null, new IllegalStateException());
        save();
        return take(now, block);
    }

    private static int takeAll(State s) {
        int count = 0;
        boolean again = true;
        while (again) {
            again = false;
            for (TreeSet<Integer> block : blocks(s).values()) {
                if (wayIfLoose(s, block) != null) {
                    take(s, block);
                    count++;
                    again = true;
                    break;
                }
            }
        }
        return count;
    }

    long takeAll() {
        save();
        return takeAll(now);
    }

    long setMelt(int melt) {
        argument(melt, 0, 9);
        save();
        int previous = now.melt;
        now.melt = melt;
        return previous;
    }

    private static int waterBeside(State s, int r, int c) {
        int count = 0;
        for (int side = 0; side < 4; side++) {
            if (s.isWater(r + SIDE_R[side], c + SIDE_C[side])) {
                count++;
            }
        }
        return count;
    }

    private static int day(State s) {
        State before = s.copy();
        int sum = 0;
        for (int r = 0; r < s.h; r++) {
            for (int c = 0; c < s.w; c++) {
                s.ice[r][c] = Math.max(0, s.ice[r][c] - s.melt - (waterBeside(before, r, c) > 1 ? 1 : 0));
                sum += before.ice[r][c] - s.ice[r][c];
            }
        }
        s.days++;
        s.melted += sum;
        return sum;
    }

    long pass(int days) {
        argument(days, 1, 50);
        save();
        int sum = 0;
        for (int i = 0; i < days; i++) {
            sum += day(now);
        }
        return sum;
    }

    long cell(int cell, int what) {
        cellExists(cell);
        argument(what, 0, 6);
        int r = cell / now.w;
        int c = cell % now.w;
        if (what == 0) {
            return now.ice[r][c];
        }
        if (what == 5) {
            TreeSet<Integer> block = blockAt(now, cell);
            return block == null ? -1 : block.first();
        }
        if (what == 6) {
            return waterBeside(now, r, c);
        }
        return isCut(now, r, c, what - 1) ? 1 : 0;
    }

    long block(int cell, int what) {
        cellExists(cell);
        argument(what, 0, 4);
        TreeSet<Integer> block = blockAt(now, cell);
        if (block == null) {
            return -1;
        }
        List<Integer> way = wayIfLoose(now, block);
        long[] facts = {block.first(), block.size(), volume(now, block), held(now, block) ? 1 : 0,
            way == null ? -1 : way.size()};
        return facts[what];
    }

    long move(int cell, int index) {
        cellExists(cell);
        need(index >= 0, new IndexOutOfBoundsException());
        List<Integer> way = wayIfLoose(now, blockAt(now, cell));
        return way == null || index >= way.size() ? -1 : way.get(index);
    }

    long value(int what) {
        argument(what, 0, 13);
        int cells = 0;
        int inField = 0;
        int loose = 0;
        int stranded = 0;
        int taken = 0;
        Map<Integer, TreeSet<Integer>> blocks = blocks(now);
        for (TreeSet<Integer> block : blocks.values()) {
            cells += block.size();
            inField += volume(now, block);
            loose += held(now, block) ? 0 : 1;
            stranded += !held(now, block) && way(now, block) == null ? 1 : 0;
        }
        for (int[] one : now.taken) {
            taken += one[1];
        }
        long[] values = {now.w, now.h, cells, blocks.size(), loose, stranded, now.cuts.size(), now.melt, now.days,
            inField + taken + now.melted, inField, taken, now.melted, now.taken.size()};
        return values[what];
    }

    long taken(int index, int what) {
        need(index >= 0 && index < Math.min(40, now.taken.size()), new IndexOutOfBoundsException());
        argument(what, 0, 2);
        return now.taken.get(index)[what];
    }

    // ---- what if

    long takable() {
        return takeAll(now.copy());
    }

    long leftStranded() {
        State s = now.copy();
        takeAll(s);
        int count = 0;
        for (TreeSet<Integer> block : blocks(s).values()) {
            count += held(s, block) ? 0 : 1;
        }
        return count;
    }

    long daysWhole(int cell) {
        cellExists(cell);
        TreeSet<Integer> block = blockAt(now, cell);
        if (block == null || held(now, block)) {
            return -1;
        }
        State s = now.copy();
        for (int days = 1; days <= 60; days++) {
            day(s);
            for (int one : block) {
                if (s.ice[one / s.w][one % s.w] == 0) {
                    return days;
                }
            }
        }
        return -1;
    }

    long daysToWater() {
        State s = now.copy();
        int days = 0;
        while (!blocks(s).isEmpty()) {
            if (days == 60) {
                return -1;
            }
            day(s);
            days++;
        }
        return days;
    }

    long barredBy() {
        for (TreeSet<Integer> block : blocks(now).values()) {
            if (held(now, block) || way(now, block) != null) {
                continue;
            }
            for (int cell = 0; cell < now.w * now.h; cell++) {
                State s = now.copy();
                s.ice[cell / now.w][cell % now.w] = 0;
                if (now.isIce(cell / now.w, cell % now.w) && !block.contains(cell) && way(s, block) != null) {
                    return cell;
                }
            }
            return -1;
        }
        return -1;
    }

    long harvestBits() {
        double share = now.laid == 0 ? 0.0 : (double) value(11) / (double) now.laid;
        return Double.doubleToRawLongBits(share);
    }

    // ---- text

    long append(int value) {
        argument(value, 0, 127);
        need(text.length() < 60, new IllegalStateException());
        text += (char) value;
        return text.length();
    }

    long clearText() {
        int length = text.length();
        text = "";
        return length;
    }

    private static boolean canGoOn(String beginning) {
        for (int w = 2; w <= 7; w++) {
            if (beginning.matches("([0-9]{" + w + "}/){0,6}[0-9]{0," + w + "}")) {
                return true;
            }
        }
        return false;
    }

    long parse() {
        for (int i = 0; i < text.length(); i++) {
            if (!canGoOn(text.substring(0, i + 1))) {
                return -10 - i;
            }
        }
        String[] rows = text.split("/", -1);
        if (rows.length < 2 || rows[rows.length - 1].length() != rows[0].length()) {
            return -10 - text.length();
        }
        make(rows[0].length(), rows.length, 0);
        for (int r = 0; r < now.h; r++) {
            for (int c = 0; c < now.w; c++) {
                now.ice[r][c] = rows[r].charAt(c) - '0';
                now.laid += now.ice[r][c];
            }
        }
        return now.laid;
    }

    // ---- state

    long undo() {
        need(!saved.isEmpty(), new IllegalStateException());
        now = saved.removeLast();
        return saved.size();
    }

    long digest() {
        List<Long> values = new ArrayList<>();
        values.add((long) text.length());
        for (int what = 0; what <= 13; what++) {
            values.add(value(what));
        }
        for (int cell = 0; cell < now.w * now.h; cell++) {
            for (int what = 0; what <= 6; what++) {
                values.add(cell(cell, what));
            }
            values.add(block(cell, 3));
            values.add(block(cell, 4));
        }
        for (int index = 0; index < Math.min(40, now.taken.size()); index++) {
            for (int what = 0; what <= 2; what++) {
                values.add(taken(index, what));
            }
        }
        values.add(takable());
        values.add((long) saved.size());
        long h = 3557;
        for (long v : values) {
            h = 31 * h + v;
        }
        return h;
    }
}
