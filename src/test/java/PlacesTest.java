/** Promises 37 to 39: places, place, differs. */
public final class PlacesTest {
    private static final Check CHECK = new Check("PlacesTest");
    private static final int[] NO_YARD = {-1, 4, Integer.MIN_VALUE, Integer.MAX_VALUE};

    public static void main(String[] args) {
        placesInOrder();
        kindsAndTurns();
        openAndMissingCells();
        theFarthest();
        manyPlaces();
        placesInItself();
        refusals();
        differs();
        CHECK.end();
    }

    private static StackYard two() {
        StackYard yard = Build.plain(3, 3, 3);
        yard.kind(2, 2, 0, 1, false);
        Build.open(yard, 1, 3, 3, 3);
        return yard;
    }

    private static void placesInOrder() {
        StackYard yard = two();
        yard.put(1, 1, 1, 1, 1);
        int[][] blocks = {{2, 0, 0}, {0, 2, 0}, {0, 1, 2}, {1, 0, 0}, {0, 1, 1}};
        for (int[] b : blocks) {
            yard.put(0, b[0], b[1], b[2], 1);
        }
        int[] due = {Build.shift(-1, 0, 0), Build.shift(-1, 0, 1), Build.shift(-1, 1, -1),
            Build.shift(0, -1, -1), Build.shift(1, -1, -1), -1};
        CHECK.due("37: five places", yard.places(0, 1), 5);
        for (int k = 0; k < 6; k++) {
            CHECK.due("38: place " + k, yard.place(0, 1, k), due[k]);
        }
        CHECK.due("37: the other way", yard.places(1, 0), 0);
        CHECK.due("38: the other way", yard.place(1, 0, 0), -1);
    }

    private static void kindsAndTurns() {
        StackYard yard = two();
        yard.put(1, 0, 0, 0, 1);
        yard.put(1, 0, 0, 1, 2);
        yard.face(1, 0, 0, 1, 4);
        yard.put(0, 2, 2, 1, 1);
        yard.put(0, 2, 2, 2, 2);
        CHECK.due("37: another turn", yard.places(0, 1), 0);
        yard.face(0, 2, 2, 2, 4);
        CHECK.due("37: the same", yard.places(0, 1), 1);
        CHECK.due("38: where", yard.place(0, 1, 0), Build.shift(2, 2, 1));
        yard.put(0, 2, 2, 1, 2);
        CHECK.due("37: another kind", yard.places(0, 1), 0);
        yard.put(0, 2, 2, 1, 0);
        CHECK.due("37: an open cell for a block", yard.places(0, 1), 0);
    }

    private static void openAndMissingCells() {
        StackYard yard = two();
        yard.put(1, 0, 0, 0, 1);
        yard.put(1, 0, 0, 2, 1);
        yard.fill(0, 1, 0);
        CHECK.due("37: open cells of u may be anything", yard.places(0, 1), 9);
        yard.row(0, 1, 1, 2);
        CHECK.due("37: a cell of y that is not there", yard.places(0, 1), 8);
        CHECK.due("38: the one before it", yard.place(0, 1, 3), Build.shift(1, 0, 0));
        CHECK.due("38: the one after it", yard.place(0, 1, 4), Build.shift(1, 2, 0));
        CHECK.due("37: u is missing", yard.places(0, 2), 0);
        CHECK.due("38: u is missing", yard.place(0, 2, 0), -1);
        CHECK.due("37: y is missing", yard.places(2, 0), 0);
        CHECK.due("37: both are missing", yard.places(2, 3), 0);
        yard.put(1, 0, 0, 0, 0);
        yard.put(1, 0, 0, 2, 0);
        CHECK.due("37: u has no blocks", yard.places(0, 1), 0);
        CHECK.due("38: u has no blocks", yard.place(0, 1, 0), -1);
    }

    private static void theFarthest() {
        StackYard yard = Build.plain(10, 10, 10);
        Build.open(yard, 1, 10, 10, 10);
        yard.put(0, 9, 9, 9, 1);
        yard.put(1, 0, 0, 0, 1);
        CHECK.due("38: nine further", yard.place(0, 1, 0), 181818);
        CHECK.due("38: nine nearer", yard.place(1, 0, 0), 0);
        CHECK.due("37: one place", yard.places(0, 1), 1);
        yard.put(0, 9, 9, 9, 0);
        yard.put(0, 0, 0, 0, 1);
        yard.put(1, 0, 0, 0, 0);
        int[][] far = {{9, 0, 0}, {0, 9, 0}, {0, 0, 9}, {9, 9, 0}, {9, 0, 9}, {0, 9, 9}};
        for (int[] f : far) {
            yard.put(1, f[0], f[1], f[2], 1);
            CHECK.due("38: far along some axes", yard.place(0, 1, 0), Build.shift(-f[0], -f[1], -f[2]));
            CHECK.due("38: the other way", yard.place(1, 0, 0), Build.shift(f[0], f[1], f[2]));
            yard.put(1, f[0], f[1], f[2], 0);
        }
        yard.put(0, 0, 0, 0, 0);
        yard.put(1, 0, 0, 0, 1);
        yard.put(0, 0, 0, 9, 1);
        yard.put(1, 0, 0, 0, 0);
        yard.put(1, 0, 1, 0, 1);
        CHECK.due("38: not counted on to the next row", yard.place(0, 1, 0), Build.shift(0, -1, 9));
        yard.put(1, 0, 1, 1, 1);
        yard.put(0, 0, 1, 0, 1);
        CHECK.due("37: two in a row, not at ends of rows", yard.places(0, 1), 0);
    }

    private static void manyPlaces() {
        StackYard yard = Build.plain(10, 10, 10);
        Build.open(yard, 1, 10, 10, 10);
        yard.fill(0, 1, 0);
        yard.put(1, 5, 6, 7, 1);
        CHECK.due("37: one block in all", yard.places(0, 1), 1000);
        CHECK.due("38: the first", yard.place(0, 1, 0), Build.shift(-5, -6, -7));
        CHECK.due("38: the second", yard.place(0, 1, 1), Build.shift(-5, -6, -6));
        CHECK.due("38: the 11th", yard.place(0, 1, 10), Build.shift(-5, -5, -7));
        CHECK.due("38: the 101st", yard.place(0, 1, 100), Build.shift(-4, -6, -7));
        CHECK.due("38: the last", yard.place(0, 1, 999), Build.shift(4, 3, 2));
        CHECK.due("38: after it", yard.place(0, 1, 1000), -1);
        yard.put(1, 6, 8, 3, 1);
        CHECK.due("37: two blocks in all", yard.places(0, 1), 9 * 8 * 6);
        yard.box(1);
        CHECK.due("37: not of the box alone", yard.places(0, 1), 9 * 8 * 6);
    }

    private static void placesInItself() {
        StackYard yard = Build.plain(10, 10, 10);
        yard.fill(0, 1, 0);
        CHECK.due("37: all in itself", yard.places(0, 0), 1);
        CHECK.due("38: by nothing", yard.place(0, 0, 0), 90909);
        yard.share(0, 3);
        CHECK.due("37: in one that is shared", yard.places(3, 0), 1);
        yard.put(3, 4, 4, 4, 0);
        CHECK.due("37: in one with a hole", yard.places(3, 0), 0);
        CHECK.due("37: one with a hole in all", yard.places(0, 3), 1);
    }

    private static void refusals() {
        StackYard yard = two();
        yard.put(0, 0, 0, 0, 1);
        for (int wrong : NO_YARD) {
            CHECK.due("37: no such y", yard.places(wrong, 0), -1);
            CHECK.due("37: no such u", yard.places(0, wrong), -1);
            CHECK.due("38: no such y", yard.place(wrong, 0, 0), -1);
            CHECK.due("38: no such u", yard.place(0, wrong, 0), -1);
            CHECK.due("39: no such y", yard.differs(wrong, 0), -1);
            CHECK.due("39: no such u", yard.differs(0, wrong), -1);
        }
        int[] noK = {-1, 1, Integer.MIN_VALUE, Integer.MAX_VALUE};
        for (int k : noK) {
            CHECK.due("38: place " + k, yard.place(0, 0, k), -1);
        }
    }

    private static void differs() {
        StackYard yard = Build.plain(10, 10, 10);
        CHECK.due("39: with itself", yard.differs(0, 0), 0);
        CHECK.due("39: with a missing one", yard.differs(0, 1), 1000);
        CHECK.due("39: the other way", yard.differs(1, 0), 1000);
        CHECK.due("39: two missing ones", yard.differs(1, 2), 0);
        Build.open(yard, 1, 10, 10, 10);
        CHECK.due("39: other layers, alike", yard.differs(0, 1), 0);
        yard.fill(0, 1, 5);
        CHECK.due("39: blocks and open cells", yard.differs(0, 1), 1000);
        yard.fill(1, 1, 5);
        yard.kind(1, 1, 0, 1, false);
        yard.put(1, 0, 0, 0, 2);
        CHECK.due("39: another kind", yard.differs(0, 1), 1);
        yard.face(1, 9, 9, 9, 6);
        CHECK.due("39: another turn", yard.differs(0, 1), 2);
        yard.row(1, 4, 4, 7);
        CHECK.due("39: a shorter row of open cells", yard.differs(0, 1), 12);
        yard.row(0, 4, 4, 8);
        CHECK.due("39: a cell there in one alone", yard.differs(0, 1), 3);
        yard.layer(1, 5);
        yard.less(0, 5);
        CHECK.due("39: a missing layer and one without rows", yard.differs(0, 1), 3);
        yard.box(1);
        CHECK.due("39: not of the box alone", yard.differs(1, 0), 3);
    }
}
