/** Promises 12 to 17: share, keep, back, forget, same, made. */
public final class CommonTest {
    private static final Check CHECK = new Check("CommonTest");
    private static final int[] NO_YARD = {-1, 4, Integer.MIN_VALUE, Integer.MAX_VALUE};
    private static final int[] NO_SLOT = {-1, 12, Integer.MIN_VALUE, Integer.MAX_VALUE};

    public static void main(String[] args) {
        sharing();
        sharingWithItself();
        keepingAndBack();
        keepingWhatIsMissing();
        aLayerThatIsNotHeldHoldsNoRows();
        firstAndLastPlaces();
        aRowIsMadeAnewOnce();
        same();
        sameRefusals();
        made();
        CHECK.end();
    }

    private static void sharing() {
        StackYard yard = Build.plain(3, 2, 2);
        Build.open(yard, 1, 10, 1, 1);
        CHECK.made("12: before", yard, 13, 16, 13, 16);
        CHECK.due("12: share(0, 1)", yard.share(0, 1), true);
        CHECK.made("12: what 1 had is gone", yard, 13, 16, 3, 6);
        for (int z = 0; z < 10; z++) {
            CHECK.due("12: layer " + z, yard.same(0, z, 1, z, 0), z < 3 ? 1 : -1);
            CHECK.due("12: missing where 0 is", yard.there(1, z, 1, 1), z < 3 ? 0 : 2);
        }
        CHECK.due("12: put in 1", yard.put(1, 2, 1, 1, 1), 0);
        CHECK.made("12: one layer, one row anew", yard, 14, 17, 4, 7);
        CHECK.due("12: not in 0", yard.at(0, 2, 1, 1), 0);
        CHECK.due("12: in 1", yard.at(1, 2, 1, 1), 1);
        yard.put(0, 2, 1, 1, 1);
        CHECK.made("12: 0 has them alone then", yard, 14, 17, 4, 7);
        yard.put(0, 2, 0, 1, 1);
        CHECK.made("12: the other row is common yet", yard, 14, 18, 4, 8);
        for (int wrong : NO_YARD) {
            CHECK.due("12: share, no such y", yard.share(wrong, 1), false);
            CHECK.due("12: share, no such u", yard.share(1, wrong), false);
        }
        CHECK.made("12: after wrong ones", yard, 14, 18, 4, 8);
        yard.share(3, 0);
        yard.share(3, 1);
        CHECK.made("12: all missing", yard, 14, 18, 0, 0);
    }

    private static void sharingWithItself() {
        StackYard yard = Build.plain(2, 2, 2);
        yard.put(0, 0, 0, 0, 1);
        CHECK.due("12: share(0, 0)", yard.share(0, 0), true);
        CHECK.made("12: nothing changes", yard, 2, 4, 2, 4);
        yard.put(0, 1, 1, 1, 1);
        CHECK.made("12: all is its own", yard, 2, 4, 2, 4);
        CHECK.due("12: share(3, 3) of a missing one", yard.share(3, 3), true);
    }

    private static void keepingAndBack() {
        StackYard yard = Build.plain(2, 1, 1);
        CHECK.due("13: keep(11, 0)", yard.keep(11, 0), true);
        CHECK.due("13: made(5)", yard.made(5), 1);
        CHECK.made("13: nothing is made", yard, 2, 2, 2, 2);
        yard.put(0, 0, 0, 0, 1);
        CHECK.made("13: made anew ahead of a change", yard, 3, 3, 3, 3);
        CHECK.due("14: back(11, 3)", yard.back(11, 3), true);
        CHECK.due("14: as it was kept", yard.at(3, 0, 0, 0), 0);
        CHECK.due("14: the same layers", yard.same(0, 1, 3, 1, 0), 1);
        CHECK.due("14: the slot stays", yard.made(5), 1);
        CHECK.due("13: keep(11, 0) again", yard.keep(11, 0), true);
        CHECK.due("13: one slot", yard.made(5), 1);
        yard.put(0, 0, 0, 0, 0);
        CHECK.due("14: back(11, 0)", yard.back(11, 0), true);
        CHECK.due("14: it keeps what it got last", yard.at(0, 0, 0, 0), 1);
        CHECK.due("14: back(11, 1)", yard.back(11, 1), true);
        CHECK.due("14: at more than one yard", yard.same(0, 0, 1, 0, 0), 1);
        CHECK.due("13: keep(0, 0)", yard.keep(0, 0), true);
        CHECK.due("13: two slots", yard.made(5), 2);
        for (int i = 0; i < 4; i++) {
            CHECK.due("13: keep, no such slot", yard.keep(NO_SLOT[i], 0), false);
            CHECK.due("13: keep, no such yard", yard.keep(5, NO_YARD[i]), false);
            CHECK.due("14: back, no such slot", yard.back(NO_SLOT[i], 0), false);
            CHECK.due("14: back, no such yard", yard.back(0, NO_YARD[i]), false);
            CHECK.due("15: forget, no such slot", yard.forget(NO_SLOT[i]), false);
        }
        CHECK.due("13: slot 5 is empty", yard.back(5, 0), false);
        CHECK.due("15: forget(11)", yard.forget(11), true);
        CHECK.due("15: forget(11) again", yard.forget(11), false);
        CHECK.due("14: back of an empty slot", yard.back(11, 0), false);
        CHECK.due("14: nothing is done", yard.at(0, 0, 0, 0), 1);
        CHECK.due("15: one slot", yard.made(5), 1);
        CHECK.due("13: keep(11, 2) after forget", yard.keep(11, 2), true);
        CHECK.due("15: two slots", yard.made(5), 2);
    }

    private static void keepingWhatIsMissing() {
        StackYard yard = Build.plain(2, 1, 1);
        CHECK.due("13: keep(0, 1) of a missing yard", yard.keep(0, 1), true);
        CHECK.due("13: the slot is not empty", yard.made(5), 1);
        CHECK.due("14: back(0, 0)", yard.back(0, 0), true);
        CHECK.due("14: all is missing", yard.there(0, 0, 0, 0), 2);
        CHECK.made("14: nothing is held", yard, 2, 2, 0, 0);
        CHECK.due("15: forget(0)", yard.forget(0), true);
    }

    private static void aLayerThatIsNotHeldHoldsNoRows() {
        StackYard yard = Build.plain(1, 3, 1);
        yard.keep(4, 0);
        yard.put(0, 0, 0, 0, 1);
        CHECK.made("15: two layers with two rows in common", yard, 2, 4, 2, 4);
        CHECK.due("15: forget(4)", yard.forget(4), true);
        CHECK.made("15: the kept layer and its row 0 are gone", yard, 2, 4, 1, 3);
        yard.put(0, 0, 1, 0, 1);
        yard.row(0, 0, 2, 1);
        CHECK.made("15: row 1 was held but once", yard, 2, 5, 1, 3);
        // the same by less, layer and share
        yard.share(0, 1);
        yard.put(1, 0, 0, 0, 0);
        CHECK.made("6: two layers", yard, 3, 6, 2, 4);
        yard.less(1, 0);
        yard.put(0, 0, 1, 0, 0);
        CHECK.made("6: a layer that is less holds no rows", yard, 3, 6, 1, 3);
        yard.share(0, 1);
        yard.put(1, 0, 0, 0, 0);
        yard.layer(1, 0);
        yard.put(0, 0, 1, 0, 1);
        CHECK.made("4: a layer that was replaced holds no rows", yard, 5, 7, 2, 3);
    }

    private static void firstAndLastPlaces() {
        for (int p = 0; p < 10; p += 9) {
            StackYard yard = new StackYard();
            yard.kind(1, 1, 0, 1, false);
            yard.layer(0, p);
            yard.row(0, p, p, 1);
            yard.keep(p, 0);
            yard.put(0, p, p, 0, 1);
            CHECK.made("2: a layer and a row at " + p, yard, 2, 2, 2, 2);
            CHECK.due("12: share(0, 3)", yard.share(0, 3), true);
            CHECK.due("12: a layer at " + p, yard.at(3, p, p, 0), 1);
            CHECK.due("14: back", yard.back(p, 3), true);
            CHECK.due("14: a layer at " + p, yard.at(3, p, p, 0), 0);
            yard.less(3, p);
            CHECK.made("6: one is kept yet", yard, 2, 2, 2, 2);
            CHECK.due("15: forget(" + p + ")", yard.forget(p), true);
            CHECK.made("15: one is left", yard, 2, 2, 1, 1);
            yard.less(0, p);
            CHECK.made("6: none is left", yard, 2, 2, 0, 0);
        }
    }

    private static void aRowIsMadeAnewOnce() {
        StackYard yard = Build.plain(1, 2, 3);
        yard.share(0, 1);
        yard.share(0, 2);
        yard.keep(0, 0);
        CHECK.made("2: held at four places", yard, 1, 2, 1, 2);
        yard.put(0, 0, 0, 0, 1);
        CHECK.made("2: the first change", yard, 2, 3, 2, 3);
        yard.put(0, 0, 0, 1, 1);
        CHECK.made("2: the second one", yard, 2, 3, 2, 3);
        yard.put(1, 0, 1, 0, 1);
        CHECK.made("2: of another yard", yard, 3, 4, 3, 4);
        CHECK.due("2: row 0 of 1 and 2", yard.same(1, 0, 2, 0, 1), 1);
        CHECK.due("2: row 1 of 1 and 2", yard.same(1, 0, 2, 0, 2), 0);
        CHECK.due("2: row 1 of 0 and 2", yard.same(0, 0, 2, 0, 2), 1);
        // row 1 of layer 0 is held by the layers of yards 0 and 2, the latter held at two places
        yard.row(0, 0, 1, 1);
        CHECK.made("5: a row instead of a common one", yard, 3, 5, 3, 5);
        yard.put(2, 0, 1, 0, 1);
        CHECK.made("2: the layer is common, then the row", yard, 4, 6, 4, 6);
        yard.forget(0);
        CHECK.made("15: row 1 was kept alone there", yard, 4, 6, 3, 5);
    }

    private static void same() {
        StackYard yard = Build.plain(2, 1, 1);
        yard.row(0, 0, 9, 1);
        yard.share(0, 1);
        CHECK.due("16: a layer and itself", yard.same(0, 0, 0, 0, 0), 1);
        CHECK.due("16: a row and itself", yard.same(0, 0, 0, 0, 1), 1);
        CHECK.due("16: the last row and itself", yard.same(0, 0, 1, 0, 10), 1);
        CHECK.due("16: two layers of a yard", yard.same(0, 0, 0, 1, 0), 0);
        CHECK.due("16: their rows", yard.same(0, 0, 0, 1, 1), 0);
        CHECK.due("16: rows, one missing", yard.same(0, 0, 0, 1, 10), -1);
        CHECK.due("16: rows, the other missing", yard.same(0, 1, 0, 0, 10), -1);
        CHECK.due("16: rows, both missing", yard.same(0, 1, 1, 1, 10), -1);
        yard.put(1, 0, 9, 0, 1);
        CHECK.due("16: layers after a change", yard.same(0, 0, 1, 0, 0), 0);
        CHECK.due("16: the row that was not changed", yard.same(0, 0, 1, 0, 1), 1);
        CHECK.due("16: the row that was", yard.same(0, 0, 1, 0, 10), 0);
    }

    private static void sameRefusals() {
        StackYard yard = Build.plain(1, 10, 1);
        int[] noTen = {-1, 10, Integer.MIN_VALUE, Integer.MAX_VALUE};
        for (int i = 0; i < 4; i++) {
            for (int what = 0; what <= 10; what += 10) {
                CHECK.due("16: no such y", yard.same(NO_YARD[i], 0, 0, 0, what), -1);
                CHECK.due("16: no such z", yard.same(0, noTen[i], 0, 0, what), -1);
                CHECK.due("16: no such u", yard.same(0, 0, NO_YARD[i], 0, what), -1);
                CHECK.due("16: no such t", yard.same(0, 0, 0, noTen[i], what), -1);
            }
        }
        CHECK.due("16: layer z missing", yard.same(0, 1, 0, 0, 0), -1);
        CHECK.due("16: layer t missing", yard.same(0, 0, 0, 1, 0), -1);
        CHECK.due("16: layer z missing, rows", yard.same(0, 1, 0, 0, 1), -1);
        CHECK.due("16: layer t missing, rows", yard.same(0, 0, 0, 1, 1), -1);
        CHECK.due("16: both missing", yard.same(1, 0, 2, 0, 0), -1);
        int[] noWhat = {-1, 11, Integer.MIN_VALUE, Integer.MAX_VALUE};
        for (int what : noWhat) {
            CHECK.due("16: what " + what, yard.same(0, 0, 0, 0, what), -1);
        }
    }

    private static void made() {
        StackYard yard = Build.plain(10, 10, 10);
        CHECK.made("17: a full yard", yard, 10, 100, 10, 100);
        for (int y = 1; y < 4; y++) {
            Build.open(yard, y, 1, 1, 1);
        }
        CHECK.made("17: four yards", yard, 13, 103, 13, 103);
        for (int s = 0; s < 12; s++) {
            yard.keep(s, 0);
            yard.put(0, s % 10, 0, 0, s < 10 ? 1 : 0);
            CHECK.due("17: made(5)", yard.made(5), s + 1);
        }
        CHECK.made("17: twelve slots", yard, 25, 115, 25, 115);
        CHECK.due("17: made(4)", yard.made(4), 1);
        CHECK.due("17: made(6)", yard.made(6), 0);
        int[] noWhat = {-1, 7, Integer.MIN_VALUE, Integer.MAX_VALUE};
        for (int what : noWhat) {
            CHECK.due("17: made(" + what + ")", yard.made(what), -1);
        }
    }
}
