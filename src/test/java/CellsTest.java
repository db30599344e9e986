/** Promises 4 to 11: layer, row, less, put, face, there, at, turnAt. */
public final class CellsTest {
    private static final Check CHECK = new Check("CellsTest");
    private static final int[] NO_TEN = {-1, 10, Integer.MIN_VALUE, Integer.MAX_VALUE};
    private static final int[] NO_YARD = {-1, 4, Integer.MIN_VALUE, Integer.MAX_VALUE};

    public static void main(String[] args) {
        layers();
        rows();
        rowRefusals();
        lengths();
        less();
        puts();
        putRefusals();
        faces();
        faceRefusals();
        whatIsThere();
        CHECK.end();
    }

    private static void layers() {
        StackYard yard = Build.plain(1, 1, 2);
        yard.put(0, 0, 0, 0, 1);
        CHECK.due("4: layer(0, 0) again", yard.layer(0, 0), true);
        CHECK.due("4: its rows are missing", yard.there(0, 0, 0, 0), 4);
        CHECK.made("4: after it", yard, 2, 1, 1, 0);
        CHECK.due("4: layer(3, 9)", yard.layer(3, 9), true);
        for (int x = 0; x < 10; x++) {
            CHECK.due("4: there(3, 9, " + x + ", 0)", yard.there(3, 9, x, 0), 4);
        }
        for (int i = 0; i < 4; i++) {
            CHECK.due("4: layer, no such yard", yard.layer(NO_YARD[i], 0), false);
            CHECK.due("4: layer, no such place", yard.layer(0, NO_TEN[i]), false);
        }
        CHECK.made("4: after wrong ones", yard, 3, 1, 2, 0);
    }

    private static void rows() {
        StackYard yard = Build.plain(1, 1, 3);
        yard.put(0, 0, 0, 2, 1);
        CHECK.due("5: row(0, 0, 0, 3) again", yard.row(0, 0, 0, 3), 0);
        CHECK.due("5: its cells are open", yard.at(0, 0, 0, 2), 0);
        CHECK.due("5: row(0, 0, 0, 0)", yard.row(0, 0, 0, 0), 0);
        CHECK.due("5: a row without cells is not missing", yard.there(0, 0, 0, 0), 5);
        CHECK.due("5: row(0, 0, 9, 10)", yard.row(0, 0, 9, 10), 0);
        CHECK.due("5: its last cell", yard.there(0, 0, 9, 9), 0);
        CHECK.due("5: beyond it", yard.there(0, 0, 9, 10), 5);
        CHECK.made("5: after them", yard, 1, 4, 1, 2);
        // a layer that is held at two places is made anew for a row, even one like that which was there
        yard.keep(0, 0);
        CHECK.due("5: row of a kept layer", yard.row(0, 0, 0, 0), 0);
        CHECK.made("5: a kept layer", yard, 2, 5, 2, 3);
        CHECK.due("5: row of an own layer", yard.row(0, 0, 1, 1), 0);
        CHECK.made("5: an own layer", yard, 2, 6, 2, 4);
        yard.back(0, 0);
        CHECK.due("5: the kept one has no row 1", yard.there(0, 0, 1, 0), 4);
    }

    private static void rowRefusals() {
        StackYard yard = Build.plain(1, 1, 1);
        for (int wrong : NO_YARD) {
            CHECK.due("5: row, no such yard", yard.row(wrong, -1, -1, -1), -1);
        }
        for (int wrong : NO_TEN) {
            CHECK.due("5: row, no place z first", yard.row(0, wrong, -1, -1), 1);
            CHECK.due("5: row, a missing layer before x", yard.row(0, 9, wrong, -1), 2);
            CHECK.due("5: row, no place x before length", yard.row(0, 0, wrong, -1), 3);
        }
        yard.keep(0, 0);
        CHECK.due("5: row, length -1", yard.row(0, 0, 0, -1), 4);
        CHECK.due("5: row, least length", yard.row(0, 0, 0, Integer.MIN_VALUE), 4);
        CHECK.due("5: row, length 11", yard.row(0, 0, 0, 11), 5);
        CHECK.due("5: row, greatest length", yard.row(0, 0, 0, Integer.MAX_VALUE), 5);
        CHECK.made("5: nothing is done", yard, 1, 1, 1, 1);
    }

    private static void lengths() {
        StackYard yard = new StackYard();
        yard.layer(2, 3);
        for (int length = 0; length <= 10; length++) {
            CHECK.due("5: row of length " + length, yard.row(2, 3, 4, length), 0);
            CHECK.due("5: its last cell", yard.there(2, 3, 4, length - 1), length == 0 ? 5 : 0);
            CHECK.due("5: beyond its last cell", yard.there(2, 3, 4, length), 5);
            CHECK.due("5: all its cells", yard.count(2, 0), length);
        }
    }

    private static void less() {
        StackYard yard = Build.plain(2, 2, 2);
        CHECK.due("6: less(0, 1)", yard.less(0, 1), true);
        CHECK.due("6: it is missing", yard.there(0, 1, 0, 0), 2);
        CHECK.due("6: the other is not", yard.there(0, 0, 0, 0), 0);
        CHECK.made("6: after it", yard, 2, 4, 1, 2);
        CHECK.due("6: less(0, 1) again", yard.less(0, 1), false);
        yard.share(0, 1);
        CHECK.due("6: less of one of two yards", yard.less(1, 0), true);
        CHECK.due("6: it stays in the other", yard.there(0, 0, 0, 0), 0);
        CHECK.made("6: it is held in the other", yard, 2, 4, 1, 2);
        for (int i = 0; i < 4; i++) {
            CHECK.due("6: less, no such yard", yard.less(NO_YARD[i], 0), false);
            CHECK.due("6: less, no such place", yard.less(0, NO_TEN[i]), false);
        }
    }

    private static void puts() {
        StackYard yard = Build.plain(1, 1, 2);
        yard.kind(1, 1, 0, 1, false);
        CHECK.due("7: put kind 0 on an open cell", yard.put(0, 0, 0, 0, 0), 0);
        CHECK.due("7: put kind 1", yard.put(0, 0, 0, 0, 1), 0);
        CHECK.due("7: its kind", yard.at(0, 0, 0, 0), 1);
        CHECK.due("7: its turn", yard.turnAt(0, 0, 0, 0), 0);
        CHECK.due("7: beside it", yard.at(0, 0, 0, 1), 0);
        yard.face(0, 0, 0, 0, 17);
        CHECK.due("7: put kind 2", yard.put(0, 0, 0, 0, 2), 0);
        CHECK.due("7: its kind then", yard.at(0, 0, 0, 0), 2);
        CHECK.due("7: the turn stays", yard.turnAt(0, 0, 0, 0), 17);
        CHECK.due("7: put kind 0", yard.put(0, 0, 0, 0, 0), 0);
        CHECK.due("7: it is open", yard.at(0, 0, 0, 0), 0);
        CHECK.due("7: an open cell has turn 0", yard.turnAt(0, 0, 0, 0), 0);
        yard.put(0, 0, 0, 0, 1);
        CHECK.due("7: a new block has turn 0", yard.turnAt(0, 0, 0, 0), 0);
        yard.keep(0, 0);
        yard.put(0, 0, 0, 0, 1);
        yard.put(0, 0, 0, 1, 0);
        CHECK.made("7: the same kind changes nothing", yard, 1, 1, 1, 1);
        yard.put(0, 0, 0, 0, 2);
        CHECK.made("7: another kind does", yard, 2, 2, 2, 2);
    }

    private static void putRefusals() {
        StackYard yard = Build.plain(1, 1, 2);
        yard.keep(0, 0);
        for (int wrong : NO_YARD) {
            CHECK.due("7: put, no such yard", yard.put(wrong, -1, -1, -1, -1), -1);
        }
        for (int wrong : NO_TEN) {
            CHECK.due("7: put, no place z first", yard.put(0, wrong, -1, -1, -1), 1);
            CHECK.due("7: put, a missing layer before x", yard.put(0, 5, wrong, -1, -1), 2);
            CHECK.due("7: put, no place x before w", yard.put(0, 0, wrong, -1, -1), 3);
            CHECK.due("7: put, a missing row before w", yard.put(0, 0, 1, wrong, -1), 4);
            CHECK.due("7: put, no such cell before the kind", yard.put(0, 0, 0, wrong, -1), 5);
        }
        CHECK.due("7: put, beyond the row", yard.put(0, 0, 0, 2, 1), 5);
        int[] noKind = {-1, 2, 31, Integer.MIN_VALUE, Integer.MAX_VALUE};
        for (int wrong : noKind) {
            CHECK.due("7: put, kind " + wrong, yard.put(0, 0, 0, 1, wrong), 6);
        }
        CHECK.due("7: nothing is done", yard.at(0, 0, 0, 1), 0);
        CHECK.made("7: nothing is done", yard, 1, 1, 1, 1);
    }

    private static void faces() {
        StackYard yard = Build.plain(1, 1, 2);
        yard.put(0, 0, 0, 1, 1);
        for (int turn = 23; turn >= 0; turn--) {
            CHECK.due("8: face to " + turn, yard.face(0, 0, 0, 1, turn), 0);
            CHECK.due("8: turnAt then", yard.turnAt(0, 0, 0, 1), turn);
            CHECK.due("8: the kind stays", yard.at(0, 0, 0, 1), 1);
        }
        yard.keep(0, 0);
        CHECK.due("8: face to the same turn", yard.face(0, 0, 0, 1, 0), 0);
        CHECK.made("8: the same turn changes nothing", yard, 1, 1, 1, 1);
        yard.face(0, 0, 0, 1, 1);
        CHECK.made("8: another turn does", yard, 2, 2, 2, 2);
        yard.back(0, 1);
        CHECK.due("8: what is kept has its own turn", yard.turnAt(1, 0, 0, 1), 0);
    }

    private static void faceRefusals() {
        StackYard yard = Build.plain(1, 1, 2);
        yard.put(0, 0, 0, 0, 1);
        for (int wrong : NO_YARD) {
            CHECK.due("8: face, no such yard", yard.face(wrong, -1, -1, -1, -1), -1);
        }
        for (int wrong : NO_TEN) {
            CHECK.due("8: face, no place z first", yard.face(0, wrong, -1, -1, -1), 1);
            CHECK.due("8: face, a missing layer before x", yard.face(0, 5, wrong, -1, -1), 2);
            CHECK.due("8: face, no place x before w", yard.face(0, 0, wrong, -1, -1), 3);
            CHECK.due("8: face, a missing row before w", yard.face(0, 0, 1, wrong, -1), 4);
            CHECK.due("8: face, no such cell", yard.face(0, 0, 0, wrong, -1), 5);
        }
        CHECK.due("8: face, an open cell before the turn", yard.face(0, 0, 0, 1, -1), 6);
        CHECK.due("8: face, an open cell", yard.face(0, 0, 0, 1, 3), 6);
        int[] noTurn = {-1, 24, Integer.MIN_VALUE, Integer.MAX_VALUE};
        for (int wrong : noTurn) {
            CHECK.due("8: face to " + wrong, yard.face(0, 0, 0, 0, wrong), 7);
        }
        CHECK.due("8: nothing is done", yard.turnAt(0, 0, 0, 0), 0);
        CHECK.due("8: nothing is done to the open one", yard.turnAt(0, 0, 0, 1), 0);
    }

    private static void whatIsThere() {
        StackYard yard = new StackYard();
        yard.kind(1, 1, 0, 1, false);
        yard.layer(3, 9);
        yard.row(3, 9, 9, 10);
        yard.put(3, 9, 9, 9, 1);
        yard.face(3, 9, 9, 9, 23);
        looked(yard, 3, 9, 9, 9, 0, 1, 23);
        looked(yard, 3, 9, 9, 0, 0, 0, 0);
        looked(yard, 2, 9, 9, 0, 2, -1, -1);
        for (int wrong : NO_YARD) {
            looked(yard, wrong, 10, 10, 10, -1, -1, -1);
            looked(yard, wrong, 9, 9, 9, -1, -1, -1);
        }
        for (int wrong : NO_TEN) {
            looked(yard, 3, wrong, 10, 10, 1, -1, -1);
            looked(yard, 3, wrong, 9, 9, 1, -1, -1);
            looked(yard, 3, 8, wrong, wrong, 2, -1, -1);
            looked(yard, 3, 9, wrong, wrong, 3, -1, -1);
            looked(yard, 3, 9, 8, wrong, 4, -1, -1);
            looked(yard, 3, 9, 9, wrong, 5, -1, -1);
        }
    }

    private static void looked(StackYard yard, int y, int z, int x, int w, int there, int kind, int turn) {
        String cell = "(" + y + ", " + z + ", " + x + ", " + w + ")";
        CHECK.due("9: there" + cell, yard.there(y, z, x, w), there);
        CHECK.due("10: at" + cell, yard.at(y, z, x, w), kind);
        CHECK.due("11: turnAt" + cell, yard.turnAt(y, z, x, w), turn);
    }
}
