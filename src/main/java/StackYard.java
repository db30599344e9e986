/**
 * A yard office for stacks of blocks: four yards of layers of rows of cells, and twelve slots that keep
 * what a yard has. The numbered promises of the document tell what each call answers.
 *
 * A cell's place is one number all through this class, 100 z + 10 x + w, as the document tells cells,
 * and what stands in it is one number too: ABSENT, OPEN, or 24 times the kind and the turn.
 */
public final class StackYard {
    public static final int NONE = -1;

    private static final int YARDS = 4;
    private static final int SLOTS = 12;
    private static final int SIDE = 10;
    private static final int LAST = SIDE - 1;
    private static final int CELLS = 1000;
    private static final int LEVEL = 100;
    private static final int WAYS = 6;
    private static final int FIRST_WAY_ASIDE = 2;
    private static final int TURNS = 24;
    private static final int MOST_KINDS = 30;
    private static final int MOST_LIGHT = 15;
    private static final int FALLS_KEPT = 60;
    /** A fall brings a block at least one nearer the ground, so there are fewer than cells times levels. */
    private static final int MOST_FALLS = CELLS * SIDE;

    private static final int ABSENT = -1;
    private static final int OPEN = 0;

    private final Ledger ledger;
    private final Kinds kinds;
    private final Box region;
    private final Yard[] yards;
    private final Yard[] slots;
    private final boolean[] keeping;
    private final Grid grid;
    private final Grid second;
    private final Parts lumps;
    private final Lamps lamps;
    private final Walk walk;
    private final int[] fallenFrom;
    private final int[] fallenSteps;
    private int fell;

    public StackYard() {
        ledger = new Ledger();
        kinds = new Kinds();
        region = new Box();
        yards = new Yard[YARDS];
        for (int y = 0; y < YARDS; y++) {
            yards[y] = new Yard(ledger);
        }
        slots = new Yard[SLOTS];
        for (int s = 0; s < SLOTS; s++) {
            slots[s] = new Yard(ledger);
        }
        keeping = new boolean[SLOTS];
        grid = new Grid();
        second = new Grid();
        lumps = new Parts();
        lamps = new Lamps();
        walk = new Walk();
        fallenFrom = new int[FALLS_KEPT];
        fallenSteps = new int[FALLS_KEPT];
        fell = 0;
    }

    // ---- kinds and turns ----

    public int kind(int weight, int strength, int light, int loss, boolean hangs) {
        return kinds.add(weight, strength, light, loss, hangs);
    }

    public int product(int t, int s) {
        return Turns.isTurn(t) && Turns.isTurn(s) ? Turns.after(t, s) : NONE;
    }

    // ---- layers, rows and cells ----

    public boolean layer(int y, int z) {
        if (!isYard(y) || !isPlace(z)) {
            return false;
        }
        yards[y].addLayer(z);
        return true;
    }

    public int row(int y, int z, int x, int length) {
        if (!isYard(y)) {
            return NONE;
        }
        if (!isPlace(z)) {
            return 1;
        }
        if (yards[y].layerAt(z) == null) {
            return 2;
        }
        if (!isPlace(x)) {
            return 3;
        }
        if (length < 0) {
            return 4;
        }
        if (length > SIDE) {
            return 5;
        }
        yards[y].addRow(z, x, length);
        return 0;
    }

    public boolean less(int y, int z) {
        if (!isYard(y) || yards[y].layerAt(z) == null) {
            return false;
        }
        yards[y].setLayer(z, null);
        return true;
    }

    public int put(int y, int z, int x, int w, int kind) {
        int refused = there(y, z, x, w);
        if (refused != 0) {
            return refused;
        }
        if (!kinds.isKindOrOpen(kind)) {
            return 6;
        }
        int cell = cellOf(z, x, w);
        yards[y].change(cell, codeOf(kind, turnOf(yards[y].codeAt(cell))));
        return 0;
    }

    public int face(int y, int z, int x, int w, int turn) {
        int refused = there(y, z, x, w);
        if (refused != 0) {
            return refused;
        }
        int cell = cellOf(z, x, w);
        int code = yards[y].codeAt(cell);
        if (code == OPEN) {
            return 6;
        }
        if (!Turns.isTurn(turn)) {
            return 7;
        }
        yards[y].change(cell, codeOf(kindOf(code), turn));
        return 0;
    }

    public int there(int y, int z, int x, int w) {
        return isYard(y) ? yards[y].refusal(z, x, w) : NONE;
    }

    public int at(int y, int z, int x, int w) {
        int code = codeIn(y, z, x, w);
        return code == ABSENT ? NONE : kindOf(code);
    }

    public int turnAt(int y, int z, int x, int w) {
        int code = codeIn(y, z, x, w);
        return code == ABSENT ? NONE : turnOf(code);
    }

    // ---- what is held in common ----

    public boolean share(int y, int u) {
        if (!isYard(y) || !isYard(u)) {
            return false;
        }
        yards[u].take(yards[y]);
        return true;
    }

    public boolean keep(int s, int y) {
        if (!isSlot(s) || !isYard(y)) {
            return false;
        }
        slots[s].take(yards[y]);
        keeping[s] = true;
        return true;
    }

    public boolean back(int s, int y) {
        if (!isSlot(s) || !isYard(y) || !keeping[s]) {
            return false;
        }
        yards[y].take(slots[s]);
        return true;
    }

    public boolean forget(int s) {
        if (!isSlot(s) || !keeping[s]) {
            return false;
        }
        slots[s].clear();
        keeping[s] = false;
        return true;
    }

    public int same(int y, int z, int u, int t, int what) {
        if (!isYard(y) || !isYard(u) || what < 0 || what > SIDE) {
            return NONE;
        }
        Layer one = yards[y].layerAt(z);
        Layer other = yards[u].layerAt(t);
        if (one == null || other == null) {
            return NONE;
        }
        if (what == 0) {
            return one == other ? 1 : 0;
        }
        Row oneRow = one.rows[what - 1];
        Row otherRow = other.rows[what - 1];
        if (oneRow == null || otherRow == null) {
            return NONE;
        }
        return oneRow == otherRow ? 1 : 0;
    }

    public int made(int what) {
        switch (what) {
            case 0:
                return ledger.layersMade;
            case 1:
                return ledger.rowsMade;
            case 2:
                return ledger.layersHeld;
            case 3:
                return ledger.rowsHeld;
            case 4:
                return kinds.number;
            case 5:
                return slotsKeeping();
            case 6:
                return fell;
            default:
                return NONE;
        }
    }

    // ---- regions ----

    public boolean box(int told) {
        return region.become(told);
    }

    public int fill(int y, int kind, int turn) {
        if (!isYard(y) || !kinds.isKindOrOpen(kind) || !Turns.isTurn(turn)) {
            return NONE;
        }
        int code = codeOf(kind, turn);
        int changed = 0;
        for (int cell = 0; cell < CELLS; cell++) {
            if (region.holds(cell) && yards[y].change(cell, code)) {
                changed++;
            }
        }
        return changed;
    }

    public int replace(int y, int a, int b) {
        if (!isYard(y) || !kinds.isKind(a) || !kinds.isKindOrOpen(b)) {
            return NONE;
        }
        int changed = 0;
        for (int cell = 0; cell < CELLS; cell++) {
            int code = region.holds(cell) ? yards[y].codeAt(cell) : ABSENT;
            if (code > OPEN && kindOf(code) == a && yards[y].change(cell, codeOf(b, turnOf(code)))) {
                changed++;
            }
        }
        return changed;
    }

    public int count(int y, int kind) {
        if (!isYard(y) || !kinds.isKindOrOpen(kind)) {
            return NONE;
        }
        int found = 0;
        for (int cell = 0; cell < CELLS; cell++) {
            int code = region.holds(cell) ? yards[y].codeAt(cell) : ABSENT;
            if (code != ABSENT && kindOf(code) == kind) {
                found++;
            }
        }
        return found;
    }

    public int hollow(int y) {
        if (!isYard(y)) {
            return NONE;
        }
        readBox(y);
        int opened = 0;
        for (int i = 0; i < grid.blocks; i++) {
            int cell = grid.listed[i];
            if (grid.bareSides(cell) == 0) {
                yards[y].change(cell, OPEN);
                opened++;
            }
        }
        return opened;
    }

    public int move(int y, int u, int told, boolean cut) {
        if (!isYard(y) || !isYard(u) || !isShift(told)) {
            return NONE;
        }
        readBox(y);
        for (int i = 0; i < grid.blocks; i++) {
            if (yards[u].codeAt(furtherBy(told, grid.listed[i])) == ABSENT) {
                return NONE;
            }
        }
        for (int i = 0; cut && i < grid.blocks; i++) {
            yards[y].change(grid.listed[i], OPEN);
        }
        for (int i = 0; i < grid.blocks; i++) {
            int cell = grid.listed[i];
            yards[u].change(furtherBy(told, cell), grid.code(cell));
        }
        return grid.blocks;
    }

    public int turnBox(int y, int t) {
        if (!isYard(y) || !Turns.isTurn(t) || !region.goesToItself(t)) {
            return NONE;
        }
        readBox(y);
        for (int cell = 0; cell < CELLS; cell++) {
            if (region.holds(cell) && grid.code(cell) == ABSENT) {
                return NONE;
            }
        }
        for (int cell = 0; cell < CELLS; cell++) {
            if (region.holds(cell)) {
                int code = grid.code(cell);
                yards[y].change(region.turned(cell, t), codeOf(kindOf(code), Turns.after(t, turnOf(code))));
            }
        }
        return grid.blocks;
    }

    public int cut(int y, int a, int b, int c, int d) {
        if (!isYard(y)) {
            return NONE;
        }
        readBox(y);
        int opened = 0;
        for (int i = 0; i < grid.blocks; i++) {
            int cell = grid.listed[i];
            // long: the sum of three such products passes what an int holds
            long side = (long) a * (2 * zOf(cell) + 1)
                    + (long) b * (2 * xOf(cell) + 1)
                    + (long) c * (2 * wOf(cell) + 1);
            if (side > 2L * d) {
                yards[y].change(cell, OPEN);
                opened++;
            }
        }
        return opened;
    }

    // ---- parts ----

    public int parts(int y) {
        if (!isYard(y)) {
            return NONE;
        }
        findParts(y);
        return lumps.number;
    }

    public int part(int y, int z, int x, int w) {
        if (codeIn(y, z, x, w) <= OPEN) {
            return NONE;
        }
        findParts(y);
        return lumps.labels[cellOf(z, x, w)];
    }

    public int partOf(int y, int k, int what) {
        if (!isYard(y)) {
            return NONE;
        }
        findParts(y);
        if (k < 0 || k >= lumps.number) {
            return NONE;
        }
        switch (what) {
            case 0:
                return lumps.sizeOf(k);
            case 1:
                return lumps.isLoose(k, grid, kinds) ? 1 : 0;
            case 2:
                return lumps.firstOf(k);
            case 3:
                return lumps.stepsOf(k, grid);
            default:
                return NONE;
        }
    }

    public int settle(int y) {
        if (!isYard(y)) {
            return NONE;
        }
        grid.read(yards[y]);
        fell = 0;
        for (int round = 0; round < MOST_FALLS; round++) {
            lumps.find(grid);
            int k = lumps.nextToFall(grid, kinds);
            if (k == NONE) {
                break;
            }
            int steps = lumps.stepsOf(k, grid);
            noteFall(lumps.firstOf(k), steps);
            lumps.lower(k, steps, grid, yards[y]);
        }
        return fell;
    }

    public int fallen(int k, int what) throws IndexOutOfBoundsException {
        if (k < 0 || k >= fell || k >= FALLS_KEPT || what < 0 || what > 1) {
            throw new IndexOutOfBoundsException();
        }
        return what == 0 ? fallenFrom[k] : fallenSteps[k];
    }

    // ---- loads, light, faces, ways ----

    public int load(int y, int z, int x, int w) {
        if (codeIn(y, z, x, w) <= OPEN) {
            return NONE;
        }
        grid.read(yards[y]);
        return kinds.loadOn(cellOf(z, x, w), grid);
    }

    public int overloaded(int y) {
        if (!isYard(y)) {
            return NONE;
        }
        grid.read(yards[y]);
        int over = 0;
        for (int i = 0; i < grid.blocks; i++) {
            int cell = grid.listed[i];
            if (kinds.loadOn(cell, grid) > kinds.strengthOf(kindOf(grid.code(cell)))) {
                over++;
            }
        }
        return over;
    }

    public int light(int y, int z, int x, int w) {
        if (codeIn(y, z, x, w) == ABSENT) {
            return NONE;
        }
        grid.read(yards[y]);
        lamps.shine(grid, kinds);
        return lamps.levels[cellOf(z, x, w)];
    }

    public int dark(int y, int level) {
        if (!isYard(y)) {
            return NONE;
        }
        grid.read(yards[y]);
        lamps.shine(grid, kinds);
        int found = 0;
        for (int cell = 0; cell < CELLS; cell++) {
            if (grid.code(cell) == OPEN && lamps.levels[cell] < level) {
                found++;
            }
        }
        return found;
    }

    public int faces(int y) {
        if (!isYard(y)) {
            return NONE;
        }
        grid.read(yards[y]);
        int bare = 0;
        for (int i = 0; i < grid.blocks; i++) {
            bare += grid.bareSides(grid.listed[i]);
        }
        return bare;
    }

    public int path(int y, int from, int to) {
        if (!isYard(y)) {
            return NONE;
        }
        grid.read(yards[y]);
        return walk.steps(grid, from, to);
    }

    // ---- one yard in another ----

    public int places(int y, int u) {
        if (!isYard(y) || !isYard(u)) {
            return NONE;
        }
        return seekWay(y, u, NONE);
    }

    public int place(int y, int u, int k) {
        if (!isYard(y) || !isYard(u) || k < 0) {
            return NONE;
        }
        return seekWay(y, u, k);
    }

    public int differs(int y, int u) {
        if (!isYard(y) || !isYard(u)) {
            return NONE;
        }
        int unlike = 0;
        for (int cell = 0; cell < CELLS; cell++) {
            if (yards[y].codeAt(cell) != yards[u].codeAt(cell)) {
                unlike++;
            }
        }
        return unlike;
    }

    // ---- helpers of the face ----

    private static boolean isYard(int y) {
        return y >= 0 && y < YARDS;
    }

    private static boolean isSlot(int s) {
        return s >= 0 && s < SLOTS;
    }

    private static boolean isPlace(int p) {
        return p >= 0 && p < SIDE;
    }

    private static boolean isCell(int cell) {
        return cell >= 0 && cell < CELLS;
    }

    private static int cellOf(int z, int x, int w) {
        return LEVEL * z + SIDE * x + w;
    }

    private static int zOf(int cell) {
        return cell / LEVEL;
    }

    private static int xOf(int cell) {
        return cell / SIDE % SIDE;
    }

    private static int wOf(int cell) {
        return cell % SIDE;
    }

    /** How far the cell's number goes on by one step along an axis: 0 z, 1 x, 2 w. */
    private static int strideOf(int axis) {
        return axis == 0 ? LEVEL : axis == 1 ? SIDE : 1;
    }

    private static int along(int axis, int cell) {
        return axis == 0 ? zOf(cell) : axis == 1 ? xOf(cell) : wOf(cell);
    }

    /** An open cell has no turn: all open cells are to be one and the same number. */
    private static int codeOf(int kind, int turn) {
        return kind == 0 ? OPEN : TURNS * kind + turn;
    }

    private static int kindOf(int code) {
        return code / TURNS;
    }

    private static int turnOf(int code) {
        return code % TURNS;
    }

    private static int tellShift(int dz, int dx, int dw) {
        return 10000 * (dz + LAST) + 100 * (dx + LAST) + dw + LAST;
    }

    private static boolean isShift(int told) {
        return told >= 0 && told / 10000 <= 2 * LAST && told / 100 % 100 <= 2 * LAST && told % 100 <= 2 * LAST;
    }

    /** NONE if that is beyond the ten places of an axis. */
    private static int furtherBy(int told, int cell) {
        int z = zOf(cell) + told / 10000 - LAST;
        int x = xOf(cell) + told / 100 % 100 - LAST;
        int w = wOf(cell) + told % 100 - LAST;
        return isPlace(z) && isPlace(x) && isPlace(w) ? cellOf(z, x, w) : NONE;
    }

    private int codeIn(int y, int z, int x, int w) {
        return there(y, z, x, w) == 0 ? yards[y].codeAt(cellOf(z, x, w)) : ABSENT;
    }

    private int slotsKeeping() {
        int found = 0;
        for (int s = 0; s < SLOTS; s++) {
            if (keeping[s]) {
                found++;
            }
        }
        return found;
    }

    private void readBox(int y) {
        grid.read(yards[y]);
        grid.listOnly(region);
    }

    private void findParts(int y) {
        grid.read(yards[y]);
        lumps.find(grid);
    }

    private void noteFall(int from, int steps) {
        if (fell < FALLS_KEPT) {
            fallenFrom[fell] = from;
            fallenSteps[fell] = steps;
        }
        fell++;
    }

    /** The k-th way to put yard u into yard y; for k NONE how many there are. */
    private int seekWay(int y, int u, int k) {
        grid.read(yards[y]);
        second.read(yards[u]);
        if (second.blocks == 0) {
            return k == NONE ? 0 : NONE;
        }
        // shifts that bring a block out of the ten are passed over unseen
        int lastZ = LAST - second.most(0);
        int lastX = LAST - second.most(1);
        int lastW = LAST - second.most(2);
        int ways = 0;
        for (int dz = -second.least(0); dz <= lastZ; dz++) {
            for (int dx = -second.least(1); dx <= lastX; dx++) {
                for (int dw = -second.least(2); dw <= lastW; dw++) {
                    if (grid.bears(second, cellOf(dz, dx, dw))) {
                        if (ways == k) {
                            return tellShift(dz, dx, dw);
                        }
                        ways++;
                    }
                }
            }
        }
        return k == NONE ? ways : NONE;
    }

    // ---- the classes inside ----

    /** What has been made and what is held, of all yards and slots together. */
    private static final class Ledger {
        int layersMade;
        int rowsMade;
        int layersHeld;
        int rowsHeld;
    }

    /** Kinds from 1 on; place 0 of each list stays unused, so that a kind's number is its index. */
    private static final class Kinds {
        final int[] weights = new int[MOST_KINDS + 1];
        final int[] strengths = new int[MOST_KINDS + 1];
        final int[] lights = new int[MOST_KINDS + 1];
        final int[] losses = new int[MOST_KINDS + 1];
        final boolean[] hanging = new boolean[MOST_KINDS + 1];
        int number;

        int add(int weight, int strength, int light, int loss, boolean hangs) {
            if (number >= MOST_KINDS || weight < 1 || weight > 10000 || strength < 0 || strength > 1000000
                    || light < 0 || light > MOST_LIGHT || loss < 1 || loss > 16) {
                return NONE;
            }
            number++;
            weights[number] = weight;
            strengths[number] = strength;
            lights[number] = light;
            losses[number] = loss;
            hanging[number] = hangs;
            return number;
        }

        boolean isKind(int kind) {
            return kind >= 1 && kind <= number;
        }

        boolean isKindOrOpen(int kind) {
            return kind == 0 || isKind(kind);
        }

        int strengthOf(int kind) {
            return isKind(kind) ? strengths[kind] : 0;
        }

        int lightOf(int kind) {
            return isKind(kind) ? lights[kind] : 0;
        }

        /** An open cell, whose kind is 0, takes one. */
        int lossOf(int kind) {
            return isKind(kind) ? losses[kind] : 1;
        }

        boolean hangs(int kind) {
            return isKind(kind) && hanging[kind];
        }

        int loadOn(int cell, Grid grid) {
            int sum = 0;
            for (int above = cell + LEVEL; above < CELLS && grid.isBlock(above); above += LEVEL) {
                int kind = kindOf(grid.code(above));
                sum += isKind(kind) ? weights[kind] : 0;
            }
            return sum;
        }
    }

    /** Turns 0 to 23, each a way to send the axes 0 z, 1 x, 2 w to axes. */
    private static final class Turns {
        private static final int[] AXES = {0, 1, 2, 0, 2, 1, 1, 0, 2, 1, 2, 0, 2, 0, 1, 2, 1, 0};
        private static final int[] SIGNS = {1, -1, -1, 1, 1, -1};

        static boolean isTurn(int t) {
            return t >= 0 && t < TURNS;
        }

        static int axisOf(int t, int axis) {
            return AXES[3 * (t / 4) + axis];
        }

        /** -1 if that axis is turned about, else 1. */
        static int signOf(int t, int axis) {
            int first = t % 2 == 1 ? -1 : 1;
            int next = t % 4 >= 2 ? -1 : 1;
            if (axis == 0) {
                return first;
            }
            // the three signs and that of the axes' order have the product 1
            return axis == 1 ? next : first * next * SIGNS[t / 4];
        }

        /** First s, then t. */
        static int after(int t, int s) {
            int zTo = axisOf(t, axisOf(s, 0));
            int xTo = axisOf(t, axisOf(s, 1));
            int zSign = signOf(s, 0) * signOf(t, axisOf(s, 0));
            int xSign = signOf(s, 1) * signOf(t, axisOf(s, 1));
            // AXES is in order: by where z is sent, then by where x is
            int wTo = 3 - zTo - xTo;
            int order = 2 * zTo + (xTo > wTo ? 1 : 0);
            return 4 * order + (xSign < 0 ? 2 : 0) + (zSign < 0 ? 1 : 0);
        }
    }

    private static final class Row {
        final int[] cells;
        int holders;

        Row(int[] cells) {
            this.cells = cells;
        }

        void hold(Ledger ledger) {
            if (holders == 0) {
                ledger.rowsHeld++;
            }
            holders++;
        }

        void release(Ledger ledger) {
            holders--;
            if (holders == 0) {
                ledger.rowsHeld--;
            }
        }
    }

    /** A layer holds its rows only while it is held itself: else a forgotten one would keep rows in common. */
    private static final class Layer {
        final Row[] rows = new Row[SIDE];
        int holders;

        void hold(Ledger ledger) {
            if (holders == 0) {
                ledger.layersHeld++;
                for (int x = 0; x < SIDE; x++) {
                    if (rows[x] != null) {
                        rows[x].hold(ledger);
                    }
                }
            }
            holders++;
        }

        void release(Ledger ledger) {
            holders--;
            if (holders == 0) {
                ledger.layersHeld--;
                for (int x = 0; x < SIDE; x++) {
                    if (rows[x] != null) {
                        rows[x].release(ledger);
                    }
                }
            }
        }

        /** Only for a layer that is held. */
        void setRow(int x, Row row, Ledger ledger) {
            Row before = rows[x];
            row.hold(ledger);
            rows[x] = row;
            if (before != null) {
                before.release(ledger);
            }
        }
    }

    /** Ten places for layers: a yard, or what a slot keeps. */
    private static final class Yard {
        private final Ledger ledger;
        private final Layer[] layers = new Layer[SIDE];

        Yard(Ledger ledger) {
            this.ledger = ledger;
        }

        Layer layerAt(int z) {
            return isPlace(z) ? layers[z] : null;
        }

        Row rowAt(int z, int x) {
            Layer layer = layerAt(z);
            return layer != null && isPlace(x) ? layer.rows[x] : null;
        }

        int refusal(int z, int x, int w) {
            if (!isPlace(z)) {
                return 1;
            }
            if (layers[z] == null) {
                return 2;
            }
            if (!isPlace(x)) {
                return 3;
            }
            Row row = layers[z].rows[x];
            if (row == null) {
                return 4;
            }
            return w >= 0 && w < row.cells.length ? 0 : 5;
        }

        int codeAt(int cell) {
            if (!isCell(cell)) {
                return ABSENT;
            }
            Row row = rowAt(zOf(cell), xOf(cell));
            return row != null && wOf(cell) < row.cells.length ? row.cells[wOf(cell)] : ABSENT;
        }

        void setLayer(int z, Layer layer) {
            Layer before = layers[z];
            if (layer != null) {
                layer.hold(ledger);
            }
            layers[z] = layer;
            if (before != null) {
                before.release(ledger);
            }
        }

        void addLayer(int z) {
            ledger.layersMade++;
            setLayer(z, new Layer());
        }

        void addRow(int z, int x, int length) {
            Layer layer = ownLayer(z);
            if (layer != null && length >= 0) {
                ledger.rowsMade++;
                layer.setRow(x, new Row(new int[length]), ledger);
            }
        }

        void take(Yard other) {
            for (int z = 0; z < SIDE; z++) {
                setLayer(z, other.layers[z]);
            }
        }

        void clear() {
            for (int z = 0; z < SIDE; z++) {
                setLayer(z, null);
            }
        }

        /** Whether the cell was changed: one that is not there or has that already is not. */
        boolean change(int cell, int code) {
            int old = codeAt(cell);
            if (old == ABSENT || old == code) {
                return false;
            }
            Row row = ownRow(ownLayer(zOf(cell)), xOf(cell));
            if (row == null || wOf(cell) >= row.cells.length) {
                return false;
            }
            row.cells[wOf(cell)] = code;
            return true;
        }

        /** The layer at z, made anew first if it is held elsewhere too. */
        private Layer ownLayer(int z) {
            Layer layer = layerAt(z);
            if (layer == null || layer.holders <= 1) {
                return layer;
            }
            Layer anew = new Layer();
            for (int x = 0; x < SIDE; x++) {
                anew.rows[x] = layer.rows[x];
            }
            ledger.layersMade++;
            setLayer(z, anew);
            return anew;
        }

        /** The row at x of a layer of its own, made anew first if other layers hold it too. */
        private Row ownRow(Layer layer, int x) {
            if (layer == null || !isPlace(x)) {
                return null;
            }
            Row row = layer.rows[x];
            if (row == null || row.holders <= 1) {
                return row;
            }
            Row anew = new Row(row.cells.clone());
            ledger.rowsMade++;
            layer.setRow(x, anew, ledger);
            return anew;
        }
    }

    private static final class Box {
        private final int[] from = {0, 0, 0};
        private final int[] upTo = {LAST, LAST, LAST};

        boolean become(int told) {
            if (told < 0 || told % 10 != 1 || told >= 10000000) {
                return false;
            }
            int z = told / 1000000;
            int z2 = told / 100000 % 10;
            int x = told / 10000 % 10;
            int x2 = told / 1000 % 10;
            int w = told / 100 % 10;
            int w2 = told / 10 % 10;
            if (z > z2 || x > x2 || w > w2) {
                return false;
            }
            from[0] = z;
            upTo[0] = z2;
            from[1] = x;
            upTo[1] = x2;
            from[2] = w;
            upTo[2] = w2;
            return true;
        }

        boolean holds(int cell) {
            int z = zOf(cell);
            int x = xOf(cell);
            int w = wOf(cell);
            return z >= from[0] && z <= upTo[0] && x >= from[1] && x <= upTo[1] && w >= from[2] && w <= upTo[2];
        }

        boolean goesToItself(int t) {
            for (int axis = 0; axis < 3; axis++) {
                int goesTo = Turns.axisOf(t, axis);
                if (upTo[axis] - from[axis] != upTo[goesTo] - from[goesTo]) {
                    return false;
                }
            }
            return true;
        }

        /** Where a cell of the box goes, if the box goes to itself. */
        int turned(int cell, int t) {
            int goesTo = 0;
            for (int axis = 0; axis < 3; axis++) {
                int place = along(axis, cell);
                int behind = Turns.signOf(t, axis) < 0 ? upTo[axis] - place : place - from[axis];
                int to = Turns.axisOf(t, axis);
                goesTo += strideOf(to) * (from[to] + behind);
            }
            return goesTo;
        }
    }

    /** What stood in a yard when it was read, and a list of its blocks: the yard may be changed meanwhile. */
    private static final class Grid {
        private final int[] codes = new int[CELLS];
        final int[] listed = new int[CELLS];
        int blocks;

        void read(Yard yard) {
            blocks = 0;
            for (int cell = 0; cell < CELLS; cell++) {
                codes[cell] = ABSENT;
            }
            for (int z = 0; z < SIDE; z++) {
                for (int x = 0; x < SIDE; x++) {
                    readRow(yard.rowAt(z, x), cellOf(z, x, 0));
                }
            }
        }

        private void readRow(Row row, int first) {
            if (row == null) {
                return;
            }
            for (int w = 0; w < row.cells.length && w < SIDE; w++) {
                codes[first + w] = row.cells[w];
                if (row.cells[w] > OPEN) {
                    listed[blocks] = first + w;
                    blocks++;
                }
            }
        }

        /** What stands around the box stays readable: only the list becomes shorter. */
        void listOnly(Box box) {
            int inside = 0;
            for (int i = 0; i < blocks; i++) {
                if (box.holds(listed[i])) {
                    listed[inside] = listed[i];
                    inside++;
                }
            }
            blocks = inside;
        }

        int code(int cell) {
            return isCell(cell) ? codes[cell] : ABSENT;
        }

        void write(int cell, int code) {
            if (isCell(cell)) {
                codes[cell] = code;
            }
        }

        boolean isBlock(int cell) {
            return code(cell) > OPEN;
        }

        /** The cell one further: 0 up, 1 down, 2 and 3 along x, 4 and 5 along w; NONE beyond the ten places. */
        static int beside(int cell, int way) {
            int axis = way / 2;
            int place = along(axis, cell);
            if (way % 2 == 0) {
                return place < LAST ? cell + strideOf(axis) : NONE;
            }
            return place > 0 ? cell - strideOf(axis) : NONE;
        }

        int bareSides(int cell) {
            int bare = 0;
            for (int way = 0; way < WAYS; way++) {
                if (!isBlock(beside(cell, way))) {
                    bare++;
                }
            }
            return bare;
        }

        int least(int axis) {
            int found = LAST;
            for (int i = 0; i < blocks; i++) {
                found = Math.min(found, along(axis, listed[i]));
            }
            return found;
        }

        int most(int axis) {
            int found = 0;
            for (int i = 0; i < blocks; i++) {
                found = Math.max(found, along(axis, listed[i]));
            }
            return found;
        }

        /** Whether each block of the other has its like here, that many cells further; none may leave the ten. */
        boolean bears(Grid other, int further) {
            for (int i = 0; i < other.blocks; i++) {
                int cell = other.listed[i];
                if (code(cell + further) != other.code(cell)) {
                    return false;
                }
            }
            return true;
        }
    }

    /** The parts of a grid: the blocks of part k are the members from starts[k] to before starts[k + 1]. */
    private static final class Parts {
        final int[] labels = new int[CELLS];
        private final int[] members = new int[CELLS];
        private final int[] starts = new int[CELLS + 1];
        private final int[] carried = new int[CELLS];
        int number;

        void find(Grid grid) {
            for (int cell = 0; cell < CELLS; cell++) {
                labels[cell] = NONE;
            }
            number = 0;
            int end = 0;
            for (int cell = 0; cell < CELLS; cell++) {
                if (grid.isBlock(cell) && labels[cell] == NONE) {
                    starts[number] = end;
                    end = gather(grid, cell, end);
                    number++;
                }
            }
            starts[number] = end;
        }

        private int gather(Grid grid, int first, int begin) {
            labels[first] = number;
            members[begin] = first;
            int end = begin + 1;
            for (int next = begin; next < end && next < CELLS; next++) {
                for (int way = 0; way < WAYS; way++) {
                    int beside = Grid.beside(members[next], way);
                    if (grid.isBlock(beside) && labels[beside] == NONE && end < CELLS) {
                        labels[beside] = number;
                        members[end] = beside;
                        end++;
                    }
                }
            }
            return end;
        }

        int sizeOf(int k) {
            return starts[k + 1] - starts[k];
        }

        /** The part was gathered from its first cell on. */
        int firstOf(int k) {
            return members[starts[k]];
        }

        boolean isLoose(int k, Grid grid, Kinds kinds) {
            for (int i = starts[k]; i < starts[k + 1]; i++) {
                if (zOf(members[i]) == 0 || kinds.hangs(kindOf(grid.code(members[i])))) {
                    return false;
                }
            }
            return true;
        }

        int stepsOf(int k, Grid grid) {
            int steps = LAST;
            for (int i = starts[k]; i < starts[k + 1] && steps > 0; i++) {
                steps = Math.min(steps, freeBelow(members[i], k, grid));
            }
            return steps;
        }

        private int freeBelow(int cell, int k, Grid grid) {
            int free = 0;
            for (int below = cell - LEVEL; below >= 0; below -= LEVEL) {
                if (grid.code(below) != OPEN && labels[below] != k) {
                    break;
                }
                free++;
            }
            return free;
        }

        /** The numbers go by first cells, so the first that can fall is also the one whose least z is least. */
        int nextToFall(Grid grid, Kinds kinds) {
            for (int k = 0; k < number; k++) {
                if (isLoose(k, grid, kinds) && stepsOf(k, grid) > 0) {
                    return k;
                }
            }
            return NONE;
        }

        /** All open first: a part may fall into cells of its own. */
        void lower(int k, int steps, Grid grid, Yard yard) {
            for (int i = starts[k]; i < starts[k + 1]; i++) {
                carried[i] = grid.code(members[i]);
                grid.write(members[i], OPEN);
                yard.change(members[i], OPEN);
            }
            for (int i = starts[k]; i < starts[k + 1]; i++) {
                int to = members[i] - LEVEL * steps;
                grid.write(to, carried[i]);
                yard.change(to, carried[i]);
            }
        }
    }

    private static final class Lamps {
        final int[] levels = new int[CELLS];

        void shine(Grid grid, Kinds kinds) {
            int brightest = 0;
            for (int cell = 0; cell < CELLS; cell++) {
                levels[cell] = grid.isBlock(cell) ? kinds.lightOf(kindOf(grid.code(cell))) : 0;
                brightest = Math.max(brightest, levels[cell]);
            }
            // each cell come to takes one at least: what has a level is final once all greater ones have spread
            for (int level = brightest; level > 1; level--) {
                for (int cell = 0; cell < CELLS; cell++) {
                    if (levels[cell] == level) {
                        spread(cell, grid, kinds);
                    }
                }
            }
        }

        private void spread(int cell, Grid grid, Kinds kinds) {
            for (int way = 0; way < WAYS; way++) {
                int beside = Grid.beside(cell, way);
                int code = grid.code(beside);
                if (code != ABSENT) {
                    levels[beside] = Math.max(levels[beside], levels[cell] - kinds.lossOf(kindOf(code)));
                }
            }
        }
    }

    private static final class Walk {
        private final int[] distances = new int[CELLS];
        private final int[] queue = new int[CELLS];
        private int reached;

        int steps(Grid grid, int from, int to) {
            if (!isStand(grid, from) || !isStand(grid, to)) {
                return NONE;
            }
            for (int cell = 0; cell < CELLS; cell++) {
                distances[cell] = NONE;
            }
            reached = 0;
            reach(grid, from, 0);
            for (int next = 0; next < reached && next < CELLS && distances[to] == NONE; next++) {
                leave(grid, queue[next]);
            }
            return distances[to];
        }

        private static boolean isStand(Grid grid, int cell) {
            return grid.code(cell) == OPEN && (zOf(cell) == 0 || grid.isBlock(cell - LEVEL));
        }

        private void leave(Grid grid, int cell) {
            int distance = distances[cell] + 1;
            for (int way = FIRST_WAY_ASIDE; way < WAYS; way++) {
                int beside = Grid.beside(cell, way);
                if (beside != NONE) {
                    reach(grid, beside, distance);
                    if (!grid.isBlock(cell + LEVEL)) {
                        reach(grid, beside + LEVEL, distance);
                    }
                    if (!grid.isBlock(beside)) {
                        reach(grid, beside - LEVEL, distance);
                    }
                }
            }
        }

        private void reach(Grid grid, int cell, int distance) {
            if (isStand(grid, cell) && distances[cell] == NONE && reached < CELLS) {
                distances[cell] = distance;
                queue[reached] = cell;
                reached++;
            }
        }
    }
}
