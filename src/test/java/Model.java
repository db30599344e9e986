import java.util.ArrayList;
import java.util.Arrays;
import java.util.Collections;
import java.util.IdentityHashMap;
import java.util.List;
import java.util.Map;
import java.util.Set;
import java.util.TreeMap;

/**
 * The document once more, as slowly and as literally as can be and by other ways than the program's:
 * what is held is looked for each time, turns are matrices, light and ways are relaxed till nothing changes.
 */
final class Model {
    private static final int[][] STEPS = {{1, 0, 0}, {-1, 0, 0}, {0, 1, 0}, {0, -1, 0}, {0, 0, 1}, {0, 0, -1}};
    private static final String[] ORDERS = {"012", "021", "102", "120", "201", "210"};

    private static final class Row {
        int[] kinds;
        int[] turns;

        Row(int length) {
            kinds = new int[length];
            turns = new int[length];
        }
    }

    private static final class Layer {
        Row[] rows = new Row[10];
    }

    private final List<int[]> kinds = new ArrayList<>();
    private final Layer[][] yards = new Layer[4][10];
    private final Layer[][] slots = new Layer[12][];
    private final int[] box = {0, 9, 0, 9, 0, 9};
    private final List<int[]> falls = new ArrayList<>();
    private int layersMade;
    private int rowsMade;

    int kind(int weight, int strength, int light, int loss, boolean hangs) {
        boolean asTold = weight >= 1 && weight <= 10000 && strength >= 0 && strength <= 1000000
                && light >= 0 && light <= 15 && loss >= 1 && loss <= 16;
        if (!asTold || kinds.size() == 30) {
            return -1;
        }
        kinds.add(new int[] {weight, strength, light, loss, hangs ? 1 : 0});
        return kinds.size();
    }

    // ---- turns, as matrices: m[to][from] is 1 or -1 ----

    private static int[][] matrix(int t) {
        String order = ORDERS[t / 4];
        int[] sign = {t % 2 == 1 ? -1 : 1, t % 4 == 2 || t % 4 == 3 ? -1 : 1, 1};
        int[][] m = new int[3][3];
        for (int k = 0; k < 3; k++) {
            m[order.charAt(k) - '0'][k] = sign[k];
        }
        if (determinant(m) < 0) {
            m[order.charAt(2) - '0'][2] = -1;
        }
        return m;
    }

    private static int determinant(int[][] m) {
        return m[0][0] * (m[1][1] * m[2][2] - m[1][2] * m[2][1])
                - m[0][1] * (m[1][0] * m[2][2] - m[1][2] * m[2][0])
                + m[0][2] * (m[1][0] * m[2][1] - m[1][1] * m[2][0]);
    }

    int product(int t, int s) {
        if (t < 0 || t > 23 || s < 0 || s > 23) {
            return -1;
        }
        int[][] a = matrix(t);
        int[][] b = matrix(s);
        int[][] both = new int[3][3];
        for (int i = 0; i < 3; i++) {
            for (int j = 0; j < 3; j++) {
                for (int k = 0; k < 3; k++) {
                    both[i][j] += a[i][k] * b[k][j];
                }
            }
        }
        for (int r = 0; r < 24; r++) {
            if (Arrays.deepEquals(matrix(r), both)) {
                return r;
            }
        }
        throw new IllegalStateException("no turn");
    }

    // ---- what is held ----

    private static boolean yard(int y) {
        return y >= 0 && y <= 3;
    }

    private static boolean ten(int p) {
        return p >= 0 && p <= 9;
    }

    private List<Layer> heldLayers() {
        List<Layer> all = new ArrayList<>();
        for (Layer[] yard : yards) {
            Collections.addAll(all, yard);
        }
        for (Layer[] slot : slots) {
            if (slot != null) {
                Collections.addAll(all, slot);
            }
        }
        all.removeIf(layer -> layer == null);
        return all;
    }

    private static <T> Set<T> distinct(List<T> list) {
        Set<T> set = Collections.newSetFromMap(new IdentityHashMap<>());
        set.addAll(list);
        return set;
    }

    private List<Row> heldRows() {
        List<Row> all = new ArrayList<>();
        for (Layer layer : distinct(heldLayers())) {
            Collections.addAll(all, layer.rows);
        }
        all.removeIf(row -> row == null);
        return all;
    }

    private static <T> int times(List<T> list, T one) {
        int n = 0;
        for (T each : list) {
            n += each == one ? 1 : 0;
        }
        return n;
    }

    private Layer ownLayer(int y, int z) {
        if (times(heldLayers(), yards[y][z]) > 1) {
            Layer anew = new Layer();
            anew.rows = yards[y][z].rows.clone();
            yards[y][z] = anew;
            layersMade++;
        }
        return yards[y][z];
    }

    private boolean set(int y, int[] c, int kind, int turn) {
        if (at(y, c[0], c[1], c[2]) == kind && turnAt(y, c[0], c[1], c[2]) == (kind == 0 ? 0 : turn)) {
            return false;
        }
        Layer layer = ownLayer(y, c[0]);
        if (times(heldRows(), layer.rows[c[1]]) > 1) {
            Row anew = new Row(0);
            anew.kinds = layer.rows[c[1]].kinds.clone();
            anew.turns = layer.rows[c[1]].turns.clone();
            layer.rows[c[1]] = anew;
            rowsMade++;
        }
        layer.rows[c[1]].kinds[c[2]] = kind;
        layer.rows[c[1]].turns[c[2]] = kind == 0 ? 0 : turn;
        return true;
    }

    boolean layer(int y, int z) {
        if (!yard(y) || !ten(z)) {
            return false;
        }
        yards[y][z] = new Layer();
        layersMade++;
        return true;
    }

    int row(int y, int z, int x, int length) {
        if (!yard(y)) {
            return -1;
        }
        if (!ten(z)) {
            return 1;
        }
        if (yards[y][z] == null) {
            return 2;
        }
        if (!ten(x)) {
            return 3;
        }
        if (length < 0 || length > 10) {
            return length < 0 ? 4 : 5;
        }
        ownLayer(y, z).rows[x] = new Row(length);
        rowsMade++;
        return 0;
    }

    boolean less(int y, int z) {
        boolean was = yard(y) && ten(z) && yards[y][z] != null;
        if (was) {
            yards[y][z] = null;
        }
        return was;
    }

    int there(int y, int z, int x, int w) {
        if (!yard(y)) {
            return -1;
        }
        if (!ten(z)) {
            return 1;
        }
        if (yards[y][z] == null) {
            return 2;
        }
        if (!ten(x)) {
            return 3;
        }
        Row row = yards[y][z].rows[x];
        if (row == null) {
            return 4;
        }
        return w < 0 || w >= row.kinds.length ? 5 : 0;
    }

    int put(int y, int z, int x, int w, int kind) {
        int refused = there(y, z, x, w);
        if (refused == 0 && (kind < 0 || kind > kinds.size())) {
            refused = 6;
        }
        if (refused == 0) {
            set(y, new int[] {z, x, w}, kind, turnAt(y, z, x, w));
        }
        return refused;
    }

    int face(int y, int z, int x, int w, int turn) {
        int refused = there(y, z, x, w);
        if (refused == 0 && at(y, z, x, w) == 0) {
            refused = 6;
        }
        if (refused == 0 && (turn < 0 || turn > 23)) {
            refused = 7;
        }
        if (refused == 0) {
            set(y, new int[] {z, x, w}, at(y, z, x, w), turn);
        }
        return refused;
    }

    int at(int y, int z, int x, int w) {
        return there(y, z, x, w) == 0 ? yards[y][z].rows[x].kinds[w] : -1;
    }

    int turnAt(int y, int z, int x, int w) {
        return there(y, z, x, w) == 0 ? yards[y][z].rows[x].turns[w] : -1;
    }

    boolean share(int y, int u) {
        if (!yard(y) || !yard(u)) {
            return false;
        }
        yards[u] = yards[y].clone();
        return true;
    }

    boolean keep(int s, int y) {
        if (s < 0 || s > 11 || !yard(y)) {
            return false;
        }
        slots[s] = yards[y].clone();
        return true;
    }

    boolean back(int s, int y) {
        if (s < 0 || s > 11 || !yard(y) || slots[s] == null) {
            return false;
        }
        yards[y] = slots[s].clone();
        return true;
    }

    boolean forget(int s) {
        boolean was = s >= 0 && s <= 11 && slots[s] != null;
        if (was) {
            slots[s] = null;
        }
        return was;
    }

    int same(int y, int z, int u, int t, int what) {
        if (!yard(y) || !yard(u) || !ten(z) || !ten(t) || yards[y][z] == null || yards[u][t] == null) {
            return -1;
        }
        if (what == 0) {
            return yards[y][z] == yards[u][t] ? 1 : 0;
        }
        if (what < 1 || what > 10 || yards[y][z].rows[what - 1] == null || yards[u][t].rows[what - 1] == null) {
            return -1;
        }
        return yards[y][z].rows[what - 1] == yards[u][t].rows[what - 1] ? 1 : 0;
    }

    int made(int what) {
        switch (what) {
            case 0: return layersMade;
            case 1: return rowsMade;
            case 2: return distinct(heldLayers()).size();
            case 3: return distinct(heldRows()).size();
            case 4: return kinds.size();
            case 5: return (int) Arrays.stream(slots).filter(slot -> slot != null).count();
            case 6: return falls.size();
            default: return -1;
        }
    }

    // ---- regions ----

    boolean box(int told) {
        for (int[] b = new int[6]; b[0] < 10; b[0]++) {
            for (b[1] = b[0]; b[1] < 10; b[1]++) {
                int rest = told - 1000000 * b[0] - 100000 * b[1];
                if (rest >= 1 && rest <= 99991 && rest % 10 == 1) {
                    String digits = String.format("%05d", rest);
                    for (int i = 0; i < 4; i++) {
                        b[2 + i] = digits.charAt(i) - '0';
                    }
                    if (b[2] <= b[3] && b[4] <= b[5]) {
                        System.arraycopy(b, 0, box, 0, 6);
                        return true;
                    }
                }
            }
        }
        return false;
    }

    private static List<int[]> all() {
        List<int[]> cells = new ArrayList<>();
        for (int i = 0; i < 1000; i++) {
            cells.add(new int[] {i / 100, i / 10 % 10, i % 10});
        }
        return cells;
    }

    /** The cells of the box that are there. */
    private List<int[]> boxed(int y) {
        List<int[]> cells = all();
        cells.removeIf(c -> c[0] < box[0] || c[0] > box[1] || c[1] < box[2] || c[1] > box[3]
                || c[2] < box[4] || c[2] > box[5] || there(y, c[0], c[1], c[2]) != 0);
        return cells;
    }

    private int at(int y, int[] c) {
        return at(y, c[0], c[1], c[2]);
    }

    private int turnAt(int y, int[] c) {
        return turnAt(y, c[0], c[1], c[2]);
    }

    private static int[] plus(int[] c, int[] d, int times) {
        return new int[] {c[0] + times * d[0], c[1] + times * d[1], c[2] + times * d[2]};
    }

    private boolean kindOrOpen(int kind) {
        return kind >= 0 && kind <= kinds.size();
    }

    int fill(int y, int kind, int turn) {
        if (!yard(y) || !kindOrOpen(kind) || turn < 0 || turn > 23) {
            return -1;
        }
        int n = 0;
        for (int[] c : boxed(y)) {
            n += set(y, c, kind, turn) ? 1 : 0;
        }
        return n;
    }

    int replace(int y, int a, int b) {
        if (!yard(y) || a == 0 || !kindOrOpen(a) || !kindOrOpen(b)) {
            return -1;
        }
        int n = 0;
        for (int[] c : boxed(y)) {
            n += at(y, c) == a && set(y, c, b, turnAt(y, c)) ? 1 : 0;
        }
        return n;
    }

    int count(int y, int kind) {
        if (!yard(y) || !kindOrOpen(kind)) {
            return -1;
        }
        return (int) boxed(y).stream().filter(c -> at(y, c) == kind).count();
    }

    int hollow(int y) {
        if (!yard(y)) {
            return -1;
        }
        List<int[]> inner = boxed(y);
        inner.removeIf(c -> at(y, c) == 0 || Arrays.stream(STEPS).anyMatch(d -> at(y, plus(c, d, 1)) < 1));
        for (int[] c : inner) {
            set(y, c, 0, 0);
        }
        return inner.size();
    }

    int move(int y, int u, int told, boolean cut) {
        int dz = told / 10000 - 9;
        int dx = told / 100 % 100 - 9;
        int dw = told % 100 - 9;
        if (!yard(y) || !yard(u) || told < 0 || dz > 9 || dx > 9 || dw > 9) {
            return -1;
        }
        List<int[]> from = boxed(y);
        from.removeIf(c -> at(y, c) == 0);
        List<int[]> blocks = new ArrayList<>();
        for (int[] c : from) {
            if (there(u, c[0] + dz, c[1] + dx, c[2] + dw) != 0) {
                return -1;
            }
            blocks.add(new int[] {c[0] + dz, c[1] + dx, c[2] + dw, at(y, c), turnAt(y, c)});
        }
        if (cut) {
            from.forEach(c -> set(y, c, 0, 0));
        }
        blocks.forEach(b -> set(u, b, b[3], b[4]));
        return blocks.size();
    }

    int turnBox(int y, int t) {
        if (!yard(y) || t < 0 || t > 23) {
            return -1;
        }
        int[] length = new int[3];
        for (int k = 0; k < 3; k++) {
            length[k] = box[2 * k + 1] - box[2 * k] + 1;
        }
        int[][] m = matrix(t);
        for (int k = 0; k < 3; k++) {
            for (int j = 0; j < 3; j++) {
                if (m[j][k] != 0 && length[j] != length[k]) {
                    return -1;
                }
            }
        }
        List<int[]> cells = boxed(y);
        if (cells.size() != length[0] * length[1] * length[2]) {
            return -1;
        }
        List<int[]> come = new ArrayList<>();
        int blocks = 0;
        for (int[] c : cells) {
            int[] to = new int[5];
            for (int j = 0; j < 3; j++) {
                for (int k = 0; k < 3; k++) {
                    int behind = c[k] - box[2 * k];
                    if (m[j][k] != 0) {
                        to[j] = box[2 * j] + (m[j][k] > 0 ? behind : length[k] - 1 - behind);
                    }
                }
            }
            to[3] = at(y, c);
            to[4] = to[3] == 0 ? 0 : product(t, turnAt(y, c));
            blocks += to[3] == 0 ? 0 : 1;
            come.add(to);
        }
        come.forEach(to -> set(y, to, to[3], to[4]));
        return blocks;
    }

    int cut(int y, int a, int b, int c, int d) {
        if (!yard(y)) {
            return -1;
        }
        int n = 0;
        for (int[] cell : boxed(y)) {
            long[] of = {2L * cell[0] + 1, 2L * cell[1] + 1, 2L * cell[2] + 1};
            if (at(y, cell) > 0 && a * of[0] + b * of[1] + c * of[2] > 2L * d) {
                set(y, cell, 0, 0);
                n++;
            }
        }
        return n;
    }

    // ---- parts: lists of cells, the cells in order ----

    private List<List<int[]>> allParts(int y) {
        int[] mark = new int[1000];
        for (int[] c : all()) {
            mark[told(c)] = at(y, c) > 0 ? told(c) : -1;
        }
        for (boolean again = true; again;) {
            again = false;
            for (int[] c : all()) {
                for (int[] d : STEPS) {
                    int[] to = plus(c, d, 1);
                    if (mark[told(c)] >= 0 && at(y, to) > 0 && mark[told(to)] < mark[told(c)]) {
                        mark[told(c)] = mark[told(to)];
                        again = true;
                    }
                }
            }
        }
        Map<Integer, List<int[]>> parts = new TreeMap<>();
        for (int[] c : all()) {
            if (mark[told(c)] >= 0) {
                parts.computeIfAbsent(mark[told(c)], first -> new ArrayList<>()).add(c);
            }
        }
        return new ArrayList<>(parts.values());
    }

    private static int told(int[] c) {
        return 100 * c[0] + 10 * c[1] + c[2];
    }

    private boolean loose(int y, List<int[]> part) {
        return part.stream().noneMatch(c -> c[0] == 0 || kinds.get(at(y, c) - 1)[4] == 1);
    }

    private int steps(int y, List<int[]> part) {
        for (int m = 1;; m++) {
            for (int[] c : part) {
                int[] below = {c[0] - m, c[1], c[2]};
                boolean own = part.stream().anyMatch(p -> Arrays.equals(p, below));
                if (there(y, below[0], below[1], below[2]) != 0 || at(y, below) != 0 && !own) {
                    return m - 1;
                }
            }
        }
    }

    int parts(int y) {
        return yard(y) ? allParts(y).size() : -1;
    }

    int part(int y, int z, int x, int w) {
        if (yard(y)) {
            List<List<int[]>> parts = allParts(y);
            for (int k = 0; k < parts.size(); k++) {
                if (parts.get(k).stream().anyMatch(c -> Arrays.equals(c, new int[] {z, x, w}))) {
                    return k;
                }
            }
        }
        return -1;
    }

    int partOf(int y, int k, int what) {
        if (!yard(y) || what < 0 || what > 3) {
            return -1;
        }
        List<List<int[]>> parts = allParts(y);
        if (k < 0 || k >= parts.size()) {
            return -1;
        }
        List<int[]> part = parts.get(k);
        return what == 0 ? part.size()
                : what == 1 ? (loose(y, part) ? 1 : 0)
                : what == 2 ? told(part.get(0))
                : steps(y, part);
    }

    int settle(int y) {
        if (!yard(y)) {
            return -1;
        }
        falls.clear();
        while (true) {
            List<int[]> falling = null;
            for (List<int[]> part : allParts(y)) {
                if (loose(y, part) && steps(y, part) > 0
                        && (falling == null || part.get(0)[0] < falling.get(0)[0])) {
                    falling = part;
                }
            }
            if (falling == null) {
                return falls.size();
            }
            int n = steps(y, falling);
            falls.add(new int[] {told(falling.get(0)), n});
            List<int[]> come = new ArrayList<>();
            for (int[] c : falling) {
                come.add(new int[] {c[0] - n, c[1], c[2], at(y, c), turnAt(y, c)});
            }
            falling.forEach(c -> set(y, c, 0, 0));
            come.forEach(c -> set(y, c, c[3], c[4]));
        }
    }

    int fallen(int k, int what) {
        if (k < 0 || k >= Math.min(60, falls.size()) || what < 0 || what > 1) {
            throw new IndexOutOfBoundsException();
        }
        return falls.get(k)[what];
    }

    // ---- loads, light, faces, ways ----

    int load(int y, int z, int x, int w) {
        if (at(y, z, x, w) < 1) {
            return -1;
        }
        int above = at(y, z + 1, x, w);
        return above < 1 ? 0 : kinds.get(above - 1)[0] + load(y, z + 1, x, w);
    }

    int overloaded(int y) {
        if (!yard(y)) {
            return -1;
        }
        return (int) all().stream()
                .filter(c -> at(y, c) > 0 && load(y, c[0], c[1], c[2]) > kinds.get(at(y, c) - 1)[1]).count();
    }

    private int[] lights(int y) {
        int[] light = new int[1000];
        for (boolean again = true; again;) {
            again = false;
            for (int[] c : all()) {
                int kind = at(y, c);
                if (kind >= 0) {
                    int best = kind > 0 ? kinds.get(kind - 1)[2] : 0;
                    for (int[] d : STEPS) {
                        int[] from = plus(c, d, 1);
                        if (at(y, from) >= 0) {
                            best = Math.max(best, light[told(from)] - (kind > 0 ? kinds.get(kind - 1)[3] : 1));
                        }
                    }
                    if (best > light[told(c)]) {
                        light[told(c)] = best;
                        again = true;
                    }
                }
            }
        }
        return light;
    }

    int light(int y, int z, int x, int w) {
        return there(y, z, x, w) == 0 ? lights(y)[told(new int[] {z, x, w})] : -1;
    }

    int dark(int y, int level) {
        if (!yard(y)) {
            return -1;
        }
        int[] light = lights(y);
        return (int) all().stream().filter(c -> at(y, c) == 0 && light[told(c)] < level).count();
    }

    int faces(int y) {
        if (!yard(y)) {
            return -1;
        }
        int n = 0;
        for (int[] c : all()) {
            for (int[] d : STEPS) {
                n += at(y, c) > 0 && at(y, plus(c, d, 1)) < 1 ? 1 : 0;
            }
        }
        return n;
    }

    private boolean stand(int y, int[] c) {
        return at(y, c) == 0 && (c[0] == 0 || at(y, c[0] - 1, c[1], c[2]) > 0);
    }

    private boolean step(int y, int[] a, int[] b) {
        if (!stand(y, a) || !stand(y, b) || Math.abs(a[1] - b[1]) + Math.abs(a[2] - b[2]) != 1) {
            return false;
        }
        return a[0] == b[0]
                || b[0] == a[0] + 1 && at(y, a[0] + 1, a[1], a[2]) < 1
                || b[0] == a[0] - 1 && at(y, b[0] + 1, b[1], b[2]) < 1;
    }

    int path(int y, int from, int to) {
        if (!yard(y) || from < 0 || from > 999 || to < 0 || to > 999
                || !stand(y, all().get(from)) || !stand(y, all().get(to))) {
            return -1;
        }
        int[] least = new int[1000];
        Arrays.fill(least, 5000);
        least[from] = 0;
        for (boolean again = true; again;) {
            again = false;
            for (int[] a : all()) {
                for (int i = 0; i < 18; i++) {
                    int[] b = plus(plus(a, STEPS[i / 3], 1), STEPS[0], i % 3 - 1);
                    if (step(y, a, b) && least[told(b)] > least[told(a)] + 1) {
                        least[told(b)] = least[told(a)] + 1;
                        again = true;
                    }
                }
            }
        }
        return least[to] == 5000 ? -1 : least[to];
    }

    // ---- places ----

    private List<Integer> ways(int y, int u) {
        List<int[]> blocks = all();
        blocks.removeIf(c -> at(u, c) < 1);
        List<Integer> ways = new ArrayList<>();
        for (int dz = -9; dz <= 9 && !blocks.isEmpty(); dz++) {
            for (int dx = -9; dx <= 9; dx++) {
                for (int dw = -9; dw <= 9; dw++) {
                    int[] d = {dz, dx, dw};
                    if (blocks.stream().allMatch(c -> at(y, plus(c, d, 1)) == at(u, c)
                            && turnAt(y, plus(c, d, 1)) == turnAt(u, c))) {
                        ways.add(10000 * (dz + 9) + 100 * (dx + 9) + dw + 9);
                    }
                }
            }
        }
        return ways;
    }

    int places(int y, int u) {
        return yard(y) && yard(u) ? ways(y, u).size() : -1;
    }

    int place(int y, int u, int k) {
        if (!yard(y) || !yard(u)) {
            return -1;
        }
        List<Integer> ways = ways(y, u);
        return k < 0 || k >= ways.size() ? -1 : ways.get(k);
    }

    int differs(int y, int u) {
        if (!yard(y) || !yard(u)) {
            return -1;
        }
        return (int) all().stream().filter(c -> at(y, c) != at(u, c) || turnAt(y, c) != turnAt(u, c)).count();
    }
}
