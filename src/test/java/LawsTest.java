/**
 * What must hold between the promises, whatever stands in the yards: laws that the document's words have for
 * consequences, asked of yards of any blocks. No second reading of the document is needed for them.
 */
public final class LawsTest {
    private static final Check CHECK = new Check("LawsTest");
    private static final int YARDS = 150;
    private static final int KINDS = 5;
    /** Turns that send z to z, with its direction kept: what is above stays above. */
    private static final int[] UPRIGHT = {0, 2, 4, 6};

    private final int run;
    private final int side;
    private final StackYard yard = new StackYard();
    private long state;

    private LawsTest(int run) {
        this.run = run;
        side = 2 + run % 4;
        state = 4101842887655102017L + 7046029254386353131L * run;
    }

    public static void main(String[] args) {
        for (int run = 0; run < YARDS; run++) {
            new LawsTest(run).countsAgree();
            new LawsTest(run).partsAgree();
            new LawsTest(run).turningKeepsLooks();
            new LawsTest(run).turningUprightKeepsLoadsAndWays();
            new LawsTest(run).turnsMakeOneTurn();
            new LawsTest(run).settledStaysSettled();
            new LawsTest(run).loadsAddUp();
            new LawsTest(run).onlyTheInsideIsHollowed();
            new LawsTest(run).waysGoBothWays();
            new LawsTest(run).lightGoesByNeighbours();
            new LawsTest(run).placesAreWhereItFits();
            new LawsTest(run).movesComeBack();
            new LawsTest(run).cutsHalve();
            new LawsTest(run).keptIsUntouched();
            new LawsTest(run).heldIsCounted();
        }
        CHECK.end();
    }

    // ---- yards of any blocks ----

    private int below(int bound) {
        state ^= state << 13;
        state ^= state >>> 7;
        state ^= state << 17;
        return (int) ((state >>> 11) % bound);
    }

    private void due(String law, long got, long want) {
        CHECK.due(law + ", run " + run, got, want);
    }

    private int whole() {
        return Build.box(0, side - 1, 0, side - 1, 0, side - 1);
    }

    private int anyBox() {
        int[] b = new int[6];
        for (int k = 0; k < 6; k += 2) {
            int one = below(side);
            int other = below(side);
            b[k] = Math.min(one, other);
            b[k + 1] = Math.max(one, other);
        }
        return Build.box(b[0], b[1], b[2], b[3], b[4], b[5]);
    }

    private void kinds() {
        for (int k = 0; k < KINDS; k++) {
            yard.kind(1 + below(9), below(20), k < 2 ? 0 : below(16), 1 + below(5), k == 4 && below(2) == 0);
        }
    }

    /** A cube of cells, all there, then boxes of blocks and of open cells. */
    private void cube() {
        kinds();
        Build.open(yard, 0, side, side, side);
        for (int n = 5 + below(15); n > 0; n--) {
            yard.box(anyBox());
            yard.fill(0, below(2) * (1 + below(KINDS)), below(24));
        }
        for (int n = below(15); n > 0; n--) {
            yard.put(0, below(side), below(side), below(side), below(KINDS + 1));
        }
        yard.box(whole());
    }

    /** The same with rows that are missing, or shorter ones. */
    private void ragged() {
        cube();
        for (int n = below(4); n > 0; n--) {
            yard.row(0, below(side), below(side), below(side));
        }
        if (below(3) == 0) {
            int z = below(side);
            yard.less(0, z);
            if (below(2) == 0) {
                yard.layer(0, z);
                yard.row(0, z, below(side), side);
            }
        }
    }

    private int cells() {
        int found = 0;
        for (int z = 0; z < side; z++) {
            for (int x = 0; x < side; x++) {
                for (int w = 0; w < side; w++) {
                    found += yard.there(0, z, x, w) == 0 ? 1 : 0;
                }
            }
        }
        return found;
    }

    private int blocks() {
        int found = 0;
        for (int kind = 1; kind <= KINDS; kind++) {
            found += yard.count(0, kind);
        }
        return found;
    }

    // ---- laws ----

    private void countsAgree() {
        ragged();
        int blocks = blocks();
        int open = yard.count(0, 0);
        due("21: cells there are open or have a kind", blocks + open, cells());
        due("34: no light is below 0", yard.dark(0, 0), 0);
        due("34: each light is below 16", yard.dark(0, 16), open);
        due("19: what is not of a kind and turn is changed", yard.fill(0, 1, 23) <= blocks + open ? 1 : 0, 1);
        due("21: all are of it then", yard.count(0, 1), blocks + open);
        due("20: each is replaced", yard.replace(0, 1, 2), blocks + open);
        due("20: each is opened", yard.replace(0, 2, 0), blocks + open);
        due("21: all are open", yard.count(0, 0), blocks + open);
        due("34: without lamps all is dark", yard.dark(0, 1), blocks + open);
        due("35: without blocks no faces", yard.faces(0), 0);
        due("26: nor parts", yard.parts(0), 0);
    }

    private void partsAgree() {
        ragged();
        int parts = yard.parts(0);
        int sum = 0;
        int before = -1;
        for (int k = 0; k < parts; k++) {
            int first = yard.partOf(0, k, 2);
            sum += yard.partOf(0, k, 0);
            due("28: first cells go up", first > before ? 1 : 0, 1);
            due("27: the part of a part's first cell", yard.part(0, first / 100, first / 10 % 10, first % 10), k);
            if (first < 100) {
                due("28: it stands on the ground", yard.partOf(0, k, 1), 0);
                due("28: and cannot fall", yard.partOf(0, k, 3), 0);
            }
            before = first;
        }
        due("28: the parts' blocks are all blocks", sum, blocks());
        due("28: there is no further part", yard.partOf(0, parts, 0), -1);
    }

    /** What goes by neighbours alone is the same however the yard is turned. */
    private int[] looks() {
        int[] looks = {blocks(), yard.count(0, 0), yard.parts(0), yard.faces(0), yard.dark(0, 3), yard.dark(0, 7),
            yard.dark(0, 12), yard.count(0, 1), yard.count(0, 4)};
        return looks;
    }

    private void turningKeepsLooks() {
        cube();
        for (int n = 0; n < 4; n++) {
            int t = below(24);
            int[] before = looks();
            due("24: turned by " + t, yard.turnBox(0, t), before[0]);
            int[] after = looks();
            for (int i = 0; i < before.length; i++) {
                due("24, 26, 34, 35: look " + i + " turned by " + t, after[i], before[i]);
            }
        }
        int t = below(24);
        yard.share(0, 1);
        int opened = yard.hollow(0);
        yard.turnBox(0, t);
        yard.turnBox(1, t);
        due("22, 24: turned and hollow", yard.hollow(1), opened);
        due("22, 24: the same cells", yard.differs(0, 1), 0);
    }

    private void turningUprightKeepsLoadsAndWays() {
        cube();
        int t = UPRIGHT[below(4)];
        int over = yard.overloaded(0);
        int from = below(side * side);
        int to = below(side * side);
        int steps = yard.path(0, groundCell(from, 0), groundCell(to, 0));
        due("24: the box goes to itself", yard.turnBox(0, t) >= 0 ? 1 : 0, 1);
        due("32: overloaded, turned by " + t, yard.overloaded(0), over);
        due("36: steps, turned by " + t, yard.path(0, groundCell(from, t), groundCell(to, t)), steps);
    }

    /** A cell of z 0 and where one of the turns that keep z brings it, by hand. */
    private int groundCell(int n, int t) {
        int x = n / side;
        int w = n % side;
        int last = side - 1;
        switch (t) {
            case 2:
                return 10 * (last - x) + last - w;
            case 4:
                return 10 * (last - w) + x;
            case 6:
                return 10 * w + last - x;
            default:
                return 10 * x + w;
        }
    }

    private void turnsMakeOneTurn() {
        cube();
        yard.share(0, 1);
        int s = below(24);
        int t = below(24);
        yard.turnBox(0, s);
        yard.turnBox(0, t);
        yard.turnBox(1, yard.product(t, s));
        due("3, 24: first " + s + ", then " + t, yard.differs(0, 1), 0);
        int back = 0;
        while (back < 23 && yard.product(back, yard.product(t, s)) != 0) {
            back++;
        }
        yard.turnBox(0, back);
        yard.turnBox(1, back);
        yard.turnBox(1, s);
        yard.turnBox(1, t);
        yard.turnBox(1, back);
        due("3, 24: and back", yard.differs(0, 1), 0);
    }

    private void settledStaysSettled() {
        ragged();
        int[] before = new int[KINDS + 1];
        for (int kind = 0; kind <= KINDS; kind++) {
            before[kind] = yard.count(0, kind);
        }
        int fell = yard.settle(0);
        due("17: how many fell", yard.made(6), fell);
        for (int k = 0; k < Math.min(fell, 60); k++) {
            due("30: it fell by one step or more", yard.fallen(k, 1) >= 1 ? 1 : 0, 1);
            due("30: not below the ground", yard.fallen(k, 0) / 100 - yard.fallen(k, 1) >= 0 ? 1 : 0, 1);
        }
        CHECK.throwsIndex("30: the one behind the last, run " + run, yard, fell, 0);
        for (int kind = 0; kind <= KINDS; kind++) {
            due("29: as many of each kind", yard.count(0, kind), before[kind]);
        }
        for (int k = 0; k < Math.min(20, yard.parts(0)); k++) {
            due("29: what is loose can fall no more", yard.partOf(0, k, 1) * yard.partOf(0, k, 3), 0);
        }
        yard.share(0, 1);
        due("29: nothing falls again", yard.settle(0), 0);
        due("29: nothing is changed", yard.differs(0, 1), 0);
        due("16: nor made anew", countUnlike(), 0);
    }

    private int countUnlike() {
        int unlike = 0;
        for (int z = 0; z < side; z++) {
            unlike += yard.same(0, z, 1, z, 0) == 0 ? 1 : 0;
        }
        return unlike;
    }

    private void loadsAddUp() {
        int[] weights = {0, 1 + below(9), 1 + below(9), 10000};
        int[] strengths = {0, below(20), 5, 10001};
        for (int k = 1; k <= 3; k++) {
            yard.kind(weights[k], strengths[k], 0, 1, false);
        }
        Build.open(yard, 0, side, 2, 2);
        for (int n = 6 * side; n > 0; n--) {
            yard.put(0, below(side), below(2), below(2), below(9) % 4);
        }
        yard.row(0, side - 1, 0, 1);
        int over = 0;
        for (int column = 0; column < 4; column++) {
            int load = 0;
            for (int z = side - 1; z >= 0; z--) {
                int kind = yard.at(0, z, column / 2, column % 2);
                due("31: the load at z " + z, yard.load(0, z, column / 2, column % 2), kind > 0 ? load : -1);
                over += kind > 0 && load > strengths[kind] ? 1 : 0;
                load = kind > 0 ? load + weights[kind] : 0;
            }
        }
        due("32: those with more than their strength", yard.overloaded(0), over);
    }

    private void onlyTheInsideIsHollowed() {
        kinds();
        Build.open(yard, 0, 3, 3, 4);
        yard.fill(0, 1, 0);
        for (int n = below(3); n > 0; n--) {
            yard.put(0, below(3), below(3), below(4), 0);
        }
        int inside = 0;
        for (int w = 1; w < 3; w++) {
            boolean all = yard.at(0, 1, 1, w) > 0 && yard.at(0, 1, 1, w - 1) > 0 && yard.at(0, 1, 1, w + 1) > 0
                    && yard.at(0, 0, 1, w) > 0 && yard.at(0, 2, 1, w) > 0
                    && yard.at(0, 1, 0, w) > 0 && yard.at(0, 1, 2, w) > 0;
            inside += all ? 1 : 0;
        }
        int blocks = blocks();
        due("22: the inside", yard.hollow(0), inside);
        due("22: the others stay", blocks(), blocks - inside);
    }

    private void waysGoBothWays() {
        ragged();
        int[] ends = new int[3];
        for (int tries = 0; tries < 5; tries++) {
            for (int i = 0; i < 3; i++) {
                ends[i] = 100 * below(Math.min(3, side)) + 10 * below(side) + below(side);
            }
            int there = yard.path(0, ends[0], ends[1]);
            int on = yard.path(0, ends[1], ends[2]);
            int whole = yard.path(0, ends[0], ends[2]);
            due("36: the way back is as long", yard.path(0, ends[1], ends[0]), there);
            if (there >= 0 && on >= 0) {
                due("36: no way round is shorter", whole >= 0 && whole <= there + on ? 1 : 0, 1);
                int aside = Math.abs(ends[0] / 10 % 10 - ends[1] / 10 % 10) + Math.abs(ends[0] % 10 - ends[1] % 10);
                due("36: a step goes one aside", there >= aside && (there - aside) % 2 == 0 ? 1 : 0, 1);
            }
        }
    }

    private int loss(int[] losses, int z, int x, int w) {
        return losses[yard.at(0, z, x, w)];
    }

    /** By a lamp's own light, or by what the brightest neighbour leaves, each light can be told. */
    private void lightGoesByNeighbours() {
        int[] lights = {0, 0, 6 + below(10), 1 + below(4), 0};
        int[] losses = {1, 1 + below(16), 2, 3, 1};
        for (int k = 1; k < 5; k++) {
            yard.kind(1, 1, lights[k], losses[k], false);
        }
        Build.open(yard, 0, 3, 3, 3);
        for (int n = 0; n < 12; n++) {
            yard.put(0, below(3), below(3), below(3), below(5));
        }
        yard.row(0, below(3), below(3), below(4));
        int[][] asides = {{1, 0, 0}, {-1, 0, 0}, {0, 1, 0}, {0, -1, 0}, {0, 0, 1}, {0, 0, -1}};
        for (int cell = 0; cell < 27; cell++) {
            int z = cell / 9;
            int x = cell / 3 % 3;
            int w = cell % 3;
            int light = yard.light(0, z, x, w);
            due("33: NONE where no cell is", light < 0 ? 1 : 0, yard.there(0, z, x, w) != 0 ? 1 : 0);
            if (light >= 0) {
                int best = lights[yard.at(0, z, x, w)];
                for (int[] d : asides) {
                    int beside = yard.light(0, z + d[0], x + d[1], w + d[2]);
                    best = Math.max(best, beside - loss(losses, z, x, w));
                }
                due("33: the light at " + z + x + w, light, best);
            }
        }
    }

    private void placesAreWhereItFits() {
        ragged();
        yard.share(0, 1);
        yard.fill(1, 0, 0);
        yard.box(anyBox());
        int moved = yard.move(0, 1, Build.shift(0, 0, 0), false);
        int ways = yard.places(0, 1);
        due("37: it fits where it is from", ways > 0 ? 1 : 0, moved > 0 ? 1 : 0);
        int before = -1;
        boolean home = false;
        for (int k = 0; k < Math.min(ways, 40); k++) {
            int told = yard.place(0, 1, k);
            due("38: they go up", told > before ? 1 : 0, 1);
            home |= told == Build.shift(0, 0, 0);
            before = told;
        }
        if (ways > 0 && ways <= 40) {
            due("38: where it is from is one of them", home ? 1 : 0, 1);
        }
        due("38: there is no further one", yard.place(0, 1, ways), -1);
        if (ways > 0) {
            yard.share(0, 2);
            yard.box(whole());
            yard.move(1, 2, yard.place(0, 1, below(ways)), false);
            due("23, 38: put there it changes nothing", yard.differs(0, 2), 0);
        }
    }

    private void movesComeBack() {
        cube();
        Build.open(yard, 1, 10, side, side);
        yard.share(0, 2);
        int up = below(10 - side + 1);
        int blocks = yard.move(0, 1, Build.shift(up, 0, 0), true);
        due("23: all blocks", yard.count(2, 0) + blocks, side * side * side);
        due("23: they are cut", yard.count(0, 0), side * side * side);
        yard.box(Build.box(up, up + side - 1, 0, side - 1, 0, side - 1));
        due("23: and come back", yard.move(1, 0, Build.shift(-up, 0, 0), true), blocks);
        due("23: as they were", yard.differs(0, 2), 0);
        due("23: nothing is left", yard.parts(1), 0);
    }

    private void cutsHalve() {
        ragged();
        yard.share(0, 1);
        yard.share(0, 2);
        int a = below(9) - 4;
        int b = below(9) - 4;
        int c = below(9) - 4;
        int d = below(4 * side) - 2 * side;
        int blocks = blocks();
        int above = yard.cut(0, a, b, c, d);
        int notBelow = yard.cut(1, a, b, c, d - 1);
        int underneath = yard.cut(2, -a, -b, -c, -d);
        due("25: one side is cut", blocks(), blocks - above);
        due("25: above d is above d - 1", above <= notBelow ? 1 : 0, 1);
        due("25: both sides are not more than all", above + underneath <= blocks ? 1 : 0, 1);
        due("25: again there is none", yard.cut(0, a, b, c, d), 0);
        due("25: the other side is still there", yard.cut(0, -a, -b, -c, -d), underneath);
    }

    private void keptIsUntouched() {
        ragged();
        yard.keep(3, 0);
        yard.share(0, 1);
        for (int n = 0; n < 6; n++) {
            yard.box(anyBox());
            yard.fill(0, below(KINDS + 1), below(24));
            yard.turnBox(0, below(24));
            yard.hollow(0);
            yard.move(0, 0, Build.shift(below(3) - 1, below(3) - 1, below(3) - 1), below(2) == 0);
            yard.settle(0);
        }
        yard.back(3, 2);
        due("13, 14: what is kept stays", yard.differs(1, 2), 0);
        int unlike = 0;
        for (int z = 0; z < side; z++) {
            unlike += yard.same(1, z, 2, z, 0) == 0 ? 1 : 0;
        }
        due("16: by the same layers", unlike, 0);
        int unlikeCells = yard.differs(0, 1);
        due("39: either way", yard.differs(1, 0), unlikeCells);
        yard.share(1, 0);
        due("12: shared is alike", yard.differs(0, 1), 0);
    }

    /** Where nothing is kept, what is held can be counted by same() alone. */
    private void heldIsCounted() {
        kinds();
        Build.open(yard, 0, 2, 2, 2);
        for (int n = 0; n < 25; n++) {
            int y = below(4);
            switch (below(5)) {
                case 0:
                    yard.share(y, below(4));
                    break;
                case 1:
                    yard.row(y, below(2), below(2), 2);
                    break;
                case 2:
                    yard.less(y, below(2));
                    break;
                default:
                    yard.put(y, below(2), below(2), below(2), below(KINDS));
                    break;
            }
        }
        int layers = 0;
        int rows = 0;
        for (int y = 0; y < 4; y++) {
            for (int z = 0; z < 2; z++) {
                layers += isFirst(y, z, 0) ? 1 : 0;
                rows += isFirst(y, z, 1) ? 1 : 0;
                rows += isFirst(y, z, 2) ? 1 : 0;
            }
        }
        due("17: layers held", yard.made(2), layers);
        due("17: rows held", yard.made(3), rows);
        due("17: not more than were made", layers <= yard.made(0) && rows <= yard.made(1) ? 1 : 0, 1);
    }

    private boolean isFirst(int y, int z, int what) {
        for (int u = 0; u < y; u++) {
            if (yard.same(u, z, y, z, what) == 1) {
                return false;
            }
        }
        return yard.same(y, z, y, z, what) == 1;
    }
}
