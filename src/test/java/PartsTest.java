/** Promises 26 to 30: parts, part, partOf, settle, fallen. */
public final class PartsTest {
    private static final Check CHECK = new Check("PartsTest");
    private static final int[] NO_YARD = {-1, 4, Integer.MIN_VALUE, Integer.MAX_VALUE};

    public static void main(String[] args) {
        partsHangTogether();
        partsAreNumberedByFirstCells();
        eachCallLooksAnew();
        manyParts();
        looseParts();
        steps();
        noParts();
        oneFalls();
        theLowestFallsFirst();
        theyFallTogether();
        whatFallsIntoItself();
        whatCannotFall();
        settlingWhatIsHeld();
        nothingIsLeftOfAnEarlierFall();
        theFirstSixtyAreKept();
        aLaterSettleCounts();
        CHECK.end();
    }

    private static void partsHangTogether() {
        StackYard yard = Build.plain(3, 3, 3);
        yard.put(0, 1, 1, 1, 1);
        CHECK.due("26: one block", yard.parts(0), 1);
        int[][] beside = {{0, 1, 1}, {2, 1, 1}, {1, 0, 1}, {1, 2, 1}, {1, 1, 0}, {1, 1, 2}};
        for (int[] c : beside) {
            yard.put(0, c[0], c[1], c[2], 1);
            CHECK.due("26: a neighbour", yard.parts(0), 1);
            CHECK.due("27: of the same part", yard.part(0, c[0], c[1], c[2]), 0);
            yard.put(0, c[0], c[1], c[2], 0);
        }
        int[][] apart = {{0, 0, 1}, {0, 1, 0}, {1, 0, 0}, {2, 2, 2}, {0, 1, 2}, {2, 1, 0}};
        for (int[] c : apart) {
            yard.put(0, c[0], c[1], c[2], 1);
            CHECK.due("26: over an edge or corner", yard.parts(0), 2);
            yard.put(0, c[0], c[1], c[2], 0);
        }
        yard.kind(1, 1, 0, 1, true);
        yard.put(0, 1, 1, 2, 2);
        yard.face(0, 1, 1, 2, 5);
        CHECK.due("26: of another kind and turn", yard.parts(0), 1);
        CHECK.due("26: a yard without blocks", yard.parts(3), 0);
        // the last of a row and the first of the next one are no neighbours
        StackYard wide = Build.plain(2, 10, 10);
        wide.put(0, 0, 0, 9, 1);
        wide.put(0, 0, 1, 0, 1);
        wide.put(0, 0, 9, 5, 1);
        wide.put(0, 1, 0, 5, 1);
        CHECK.due("26: ends of rows and layers", wide.parts(0), 4);
    }

    private static void partsAreNumberedByFirstCells() {
        StackYard yard = Build.plain(2, 3, 4);
        // a part that begins late in layer 0 and one that begins in layer 1
        yard.put(0, 0, 0, 3, 1);
        yard.put(0, 0, 2, 0, 1);
        yard.put(0, 1, 2, 0, 1);
        yard.put(0, 1, 1, 0, 1);
        yard.put(0, 1, 0, 1, 1);
        CHECK.due("26: parts", yard.parts(0), 3);
        CHECK.due("27: the first", yard.part(0, 0, 0, 3), 0);
        CHECK.due("27: the second", yard.part(0, 0, 2, 0), 1);
        CHECK.due("27: the second's last but one", yard.part(0, 1, 1, 0), 1);
        CHECK.due("27: the third", yard.part(0, 1, 0, 1), 2);
        CHECK.due("28: blocks of the first", yard.partOf(0, 0, 0), 1);
        CHECK.due("28: blocks of the second", yard.partOf(0, 1, 0), 3);
        CHECK.due("28: first cell of the first", yard.partOf(0, 0, 2), 3);
        CHECK.due("28: first cell of the second", yard.partOf(0, 1, 2), 20);
        CHECK.due("28: first cell of the third", yard.partOf(0, 2, 2), 101);
        yard.put(0, 1, 0, 0, 1);
        CHECK.due("26: grown together", yard.parts(0), 2);
        CHECK.due("28: first cell in order, not first told", yard.partOf(0, 1, 2), 20);
        CHECK.due("28: all its blocks", yard.partOf(0, 1, 0), 5);
        // a part whose first cell lies behind others of it in x and w
        StackYard bent = Build.plain(2, 3, 3);
        int[][] cells = {{0, 2, 2}, {1, 2, 2}, {1, 1, 2}, {1, 0, 2}, {1, 0, 1}, {1, 0, 0}};
        for (int[] c : cells) {
            bent.put(0, c[0], c[1], c[2], 1);
        }
        CHECK.due("28: the first by z", bent.partOf(0, 0, 2), 22);
        bent.put(0, 0, 2, 2, 0);
        CHECK.due("28: the first by x, then w", bent.partOf(0, 0, 2), 100);
    }

    private static void eachCallLooksAnew() {
        StackYard yard = Build.plain(2, 1, 3);
        yard.put(0, 1, 0, 2, 1);
        CHECK.due("27: the only one", yard.part(0, 1, 0, 2), 0);
        yard.put(0, 0, 0, 0, 1);
        CHECK.due("27: after one is put before it", yard.part(0, 1, 0, 2), 1);
        CHECK.due("28: its first cell", yard.partOf(0, 1, 2), 102);
        yard.put(0, 0, 0, 0, 0);
        CHECK.due("28: after that one is gone", yard.partOf(0, 0, 2), 102);
        yard.share(0, 1);
        yard.put(1, 0, 0, 0, 1);
        CHECK.due("27: of another yard", yard.part(1, 1, 0, 2), 1);
        CHECK.due("27: of this one", yard.part(0, 1, 0, 2), 0);
        CHECK.due("26: of another yard", yard.parts(1), 2);
        CHECK.due("26: of this one", yard.parts(0), 1);
    }

    private static void manyParts() {
        StackYard yard = Build.plain(10, 10, 10);
        yard.fill(0, 1, 0);
        CHECK.due("26: all blocks", yard.parts(0), 1);
        CHECK.due("28: a thousand blocks", yard.partOf(0, 0, 0), 1000);
        CHECK.due("27: the last one", yard.part(0, 9, 9, 9), 0);
        yard.fill(0, 0, 0);
        for (int x = 0; x < 10; x++) {
            for (int w = x % 2; w < 10; w += 2) {
                yard.put(0, 9, x, w, 1);
            }
        }
        CHECK.due("26: every other cell", yard.parts(0), 50);
        CHECK.due("27: the last of fifty", yard.part(0, 9, 9, 9), 49);
        CHECK.due("28: its first cell", yard.partOf(0, 49, 2), 999);
        CHECK.due("28: a part after the last", yard.partOf(0, 50, 2), -1);
    }

    private static void looseParts() {
        StackYard yard = Build.plain(4, 1, 4);
        yard.kind(1, 1, 0, 1, true);
        yard.put(0, 0, 0, 0, 1);
        yard.put(0, 1, 0, 0, 1);
        CHECK.due("28: with a block on the ground", yard.partOf(0, 0, 1), 0);
        yard.put(0, 0, 0, 0, 0);
        CHECK.due("28: without", yard.partOf(0, 0, 1), 1);
        yard.put(0, 2, 0, 0, 2);
        CHECK.due("28: with one that hangs", yard.partOf(0, 0, 1), 0);
        CHECK.due("28: how far it could fall", yard.partOf(0, 0, 3), 1);
        yard.put(0, 2, 0, 0, 1);
        CHECK.due("28: loose again", yard.partOf(0, 0, 1), 1);
        yard.put(0, 3, 0, 3, 2);
        CHECK.due("28: another that hangs", yard.partOf(0, 1, 1), 0);
        CHECK.due("28: the first is loose yet", yard.partOf(0, 0, 1), 1);
    }

    private static void steps() {
        StackYard yard = Build.plain(10, 2, 2);
        yard.put(0, 9, 0, 0, 1);
        CHECK.due("28: to the ground", yard.partOf(0, 0, 3), 9);
        yard.put(0, 9, 0, 1, 1);
        yard.put(0, 8, 0, 1, 1);
        CHECK.due("28: the lowest tells", yard.partOf(0, 0, 3), 8);
        yard.put(0, 5, 0, 0, 1);
        CHECK.due("28: one of another part below", yard.partOf(0, 1, 3), 3);
        CHECK.due("28: that one", yard.partOf(0, 0, 3), 5);
        yard.row(0, 6, 0, 0);
        CHECK.due("28: cells that are not there", yard.partOf(0, 1, 3), 1);
        yard.row(0, 7, 0, 1);
        CHECK.due("28: one cell that is not there", yard.partOf(0, 1, 3), 0);
        CHECK.due("28: loose for all that", yard.partOf(0, 1, 1), 1);
        yard.less(0, 4);
        CHECK.due("28: a layer that is missing", yard.partOf(0, 0, 3), 0);
        StackYard bar = Build.plain(10, 1, 1);
        bar.put(0, 9, 0, 0, 1);
        bar.put(0, 8, 0, 0, 1);
        bar.put(0, 7, 0, 0, 1);
        CHECK.due("28: its own cells are no hindrance", bar.partOf(0, 0, 3), 7);
        bar.put(0, 0, 0, 0, 1);
        CHECK.due("28: a part on the ground", bar.partOf(0, 0, 3), 0);
        CHECK.due("28: above it", bar.partOf(0, 1, 3), 6);
    }

    private static void noParts() {
        StackYard yard = Build.plain(1, 1, 2);
        yard.put(0, 0, 0, 0, 1);
        for (int wrong : NO_YARD) {
            CHECK.due("26: no such yard", yard.parts(wrong), -1);
            CHECK.due("27: no such yard", yard.part(wrong, 0, 0, 0), -1);
            CHECK.due("28: no such yard", yard.partOf(wrong, 0, 0), -1);
            CHECK.due("28: no such part", yard.partOf(0, wrong == 4 ? 1 : wrong, 0), -1);
            CHECK.due("28: no such what", yard.partOf(0, 0, wrong), -1);
            CHECK.due("29: no such yard", yard.settle(wrong), -1);
        }
        CHECK.due("27: an open cell", yard.part(0, 0, 0, 1), -1);
        CHECK.due("27: no such cell", yard.part(0, 0, 0, 2), -1);
        CHECK.due("27: no such place", yard.part(0, 0, -1, 0), -1);
        CHECK.due("27: a missing layer", yard.part(0, 1, 0, 0), -1);
        CHECK.due("28: what 4", yard.partOf(0, 0, 4), -1);
        CHECK.due("28: a yard without parts", yard.partOf(1, 0, 0), -1);
    }

    private static void fell(String when, StackYard yard, int k, int from, int steps) {
        CHECK.due("30: " + when + ": fallen(" + k + ", 0)", yard.fallen(k, 0), from);
        CHECK.due("30: " + when + ": fallen(" + k + ", 1)", yard.fallen(k, 1), steps);
    }

    private static void oneFalls() {
        StackYard yard = Build.plain(4, 1, 3);
        yard.kind(1, 1, 0, 1, false);
        yard.put(0, 3, 0, 1, 2);
        yard.face(0, 3, 0, 1, 19);
        yard.put(0, 3, 0, 2, 1);
        CHECK.due("29: settle(0)", yard.settle(0), 1);
        CHECK.due("17: made(6)", yard.made(6), 1);
        fell("one", yard, 0, 301, 3);
        CHECK.due("29: its kind", yard.at(0, 0, 0, 1), 2);
        CHECK.due("29: its turn", yard.turnAt(0, 0, 0, 1), 19);
        CHECK.due("29: its other kind", yard.at(0, 0, 0, 2), 1);
        CHECK.due("29: where it was", yard.at(0, 3, 0, 1), 0);
        CHECK.due("29: two blocks", yard.count(0, 0), 10);
        CHECK.throwsIndex("30: fallen(1, 0)", yard, 1, 0);
        CHECK.throwsIndex("30: fallen(-1, 0)", yard, -1, 0);
        CHECK.throwsIndex("30: fallen(least, 0)", yard, Integer.MIN_VALUE, 0);
        CHECK.throwsIndex("30: fallen(greatest, 0)", yard, Integer.MAX_VALUE, 0);
        CHECK.throwsIndex("30: fallen(0, -1)", yard, 0, -1);
        CHECK.throwsIndex("30: fallen(0, 2)", yard, 0, 2);
        CHECK.throwsIndex("30: fallen(0, least)", yard, 0, Integer.MIN_VALUE);
        CHECK.throwsIndex("30: fallen(0, greatest)", yard, 0, Integer.MAX_VALUE);
    }

    private static void theLowestFallsFirst() {
        StackYard yard = Build.plain(8, 2, 2);
        yard.put(0, 5, 0, 0, 1);
        yard.put(0, 2, 0, 0, 1);
        yard.put(0, 2, 1, 1, 1);
        yard.put(0, 7, 1, 1, 1);
        CHECK.due("29: four fall", yard.settle(0), 4);
        fell("the lowest of the least number", yard, 0, 200, 2);
        fell("the other lowest", yard, 1, 211, 2);
        fell("the next, on to the first", yard, 2, 500, 4);
        fell("the last", yard, 3, 711, 6);
        CHECK.due("29: two stacks", yard.at(0, 1, 0, 0) + yard.at(0, 1, 1, 1), 2);
    }

    private static void theyFallTogether() {
        StackYard yard = Build.plain(10, 1, 3);
        int[][] arm = {{2, 0}, {3, 0}, {4, 0}, {5, 0}, {5, 1}, {5, 2}, {3, 2}};
        for (int[] c : arm) {
            yard.put(0, c[0], 0, c[1], 1);
        }
        CHECK.due("28: the arm till it meets the other", yard.partOf(0, 0, 3), 1);
        CHECK.due("28: the other", yard.partOf(0, 1, 3), 3);
        CHECK.due("29: the arm falls, then both", yard.settle(0), 2);
        fell("the arm", yard, 0, 200, 1);
        fell("both", yard, 1, 100, 1);
        CHECK.due("29: the arm is down", yard.at(0, 3, 0, 2), 1);
        CHECK.due("29: the other with it", yard.at(0, 2, 0, 2), 1);
        CHECK.due("26: one part", yard.parts(0), 1);
        CHECK.due("29: nothing is lost", yard.partOf(0, 0, 0), 7);
    }

    private static void whatFallsIntoItself() {
        StackYard yard = Build.plain(6, 1, 2);
        yard.kind(2, 2, 0, 1, false);
        yard.put(0, 2, 0, 0, 2);
        yard.put(0, 3, 0, 0, 1);
        yard.put(0, 4, 0, 0, 2);
        yard.face(0, 4, 0, 0, 7);
        CHECK.due("29: a bar falls", yard.settle(0), 1);
        fell("a bar", yard, 0, 200, 2);
        CHECK.due("29: at 0", yard.at(0, 0, 0, 0), 2);
        CHECK.due("29: at 1", yard.at(0, 1, 0, 0), 1);
        CHECK.due("29: at 2", yard.at(0, 2, 0, 0), 2);
        CHECK.due("29: its turn", yard.turnAt(0, 2, 0, 0), 7);
        CHECK.due("29: at 3", yard.at(0, 3, 0, 0), 0);
        CHECK.due("29: at 4", yard.at(0, 4, 0, 0), 0);
    }

    private static void whatCannotFall() {
        StackYard yard = Build.plain(6, 1, 4);
        yard.kind(1, 1, 0, 1, true);
        yard.row(0, 1, 0, 2);
        yard.put(0, 3, 0, 0, 2);
        yard.put(0, 3, 0, 2, 1);
        yard.put(0, 5, 0, 2, 1);
        CHECK.due("29: two fall, none into what is not there", yard.settle(0), 2);
        fell("on to a missing cell", yard, 0, 302, 1);
        fell("on to that one", yard, 1, 502, 2);
        CHECK.due("29: what hangs stays", yard.at(0, 3, 0, 0), 2);
        CHECK.due("29: settle again", yard.settle(0), 0);
        CHECK.due("28: it is loose", yard.partOf(0, yard.part(0, 2, 0, 2), 1), 1);
        yard.put(0, 5, 0, 0, 1);
        yard.put(0, 5, 0, 1, 1);
        CHECK.due("29: on to what hangs", yard.settle(0), 1);
        fell("on to what hangs", yard, 0, 500, 1);
        yard.less(0, 2);
        yard.put(0, 4, 0, 2, 1);
        CHECK.due("29: joined to what hangs", yard.settle(0), 0);
        CHECK.due("29: a missing yard", yard.settle(2), 0);
    }

    private static void settlingWhatIsHeld() {
        StackYard yard = Build.plain(4, 2, 1);
        yard.put(0, 2, 0, 0, 1);
        yard.put(0, 3, 0, 0, 1);
        yard.keep(0, 0);
        yard.settle(0);
        // cells 3, 2 become open, 1 and 0 get blocks
        CHECK.made("29: made anew in all four", yard, 8, 12, 8, 12);
        yard.keep(0, 0);
        yard.settle(0);
        CHECK.made("29: nothing falls", yard, 8, 12, 4, 8);
        yard.less(0, 0);
        yard.layer(0, 0);
        yard.row(0, 0, 0, 1);
        yard.put(0, 2, 0, 0, 1);
        yard.put(0, 3, 0, 0, 1);
        yard.keep(0, 0);
        CHECK.made("29: three blocks over the ground", yard, 11, 15, 4, 7);
        CHECK.due("29: they fall by one", yard.settle(0), 1);
        CHECK.made("29: cells that are open but in between are changed, too", yard, 15, 19, 8, 11);
    }

    private static void nothingIsLeftOfAnEarlierFall() {
        StackYard yard = Build.plain(6, 2, 6);
        yard.kind(1, 1, 0, 1, true);
        for (int w = 0; w < 6; w++) {
            yard.put(0, 2, 0, w, 1);
        }
        CHECK.due("29: six blocks fall", yard.settle(0), 1);
        yard.fill(0, 0, 0);
        yard.put(0, 4, 0, 0, 1);
        yard.put(0, 5, 1, 5, 2);
        CHECK.due("29: one falls, one hangs", yard.settle(0), 1);
        CHECK.due("29: two blocks", yard.count(0, 1) + yard.count(0, 2), 2);
        CHECK.due("29: the one is down", yard.at(0, 0, 0, 0), 1);
        CHECK.due("29: the other is not", yard.at(0, 5, 1, 5), 2);
    }

    private static void theFirstSixtyAreKept() {
        StackYard yard = Build.plain(10, 10, 10);
        for (int x = 0; x < 10; x++) {
            for (int w = 0; w < 10; w++) {
                yard.put(0, (x + w) % 2 == 0 ? 9 : 7, x, w, 1);
            }
        }
        CHECK.due("26: a hundred parts", yard.parts(0), 100);
        CHECK.due("29: a hundred fall", yard.settle(0), 100);
        CHECK.due("17: made(6)", yard.made(6), 100);
        fell("the first", yard, 0, 701, 7);
        fell("the fiftieth", yard, 49, 798, 7);
        fell("the next", yard, 50, 900, 9);
        fell("the sixtieth", yard, 59, 919, 9);
        CHECK.throwsIndex("30: the 61st, what 0", yard, 60, 0);
        CHECK.throwsIndex("30: the 61st, what 1", yard, 60, 1);
        CHECK.throwsIndex("30: the hundredth", yard, 99, 0);
        CHECK.throwsIndex("30: after the last", yard, 100, 0);
        CHECK.due("29: all on the ground", yard.partOf(0, 0, 0), 100);
    }

    private static void aLaterSettleCounts() {
        StackYard yard = Build.plain(3, 1, 3);
        yard.put(0, 2, 0, 0, 1);
        yard.put(0, 2, 0, 2, 1);
        CHECK.due("29: two", yard.settle(0), 2);
        CHECK.due("29: no such yard", yard.settle(4), -1);
        CHECK.due("17: made(6) is the latest's", yard.made(6), 2);
        fell("the second", yard, 1, 202, 2);
        yard.put(0, 1, 0, 1, 1);
        CHECK.due("29: one", yard.settle(0), 1);
        fell("one", yard, 0, 101, 1);
        CHECK.throwsIndex("30: of an earlier one", yard, 1, 0);
        CHECK.due("17: made(6)", yard.made(6), 1);
        CHECK.due("29: of another yard", yard.settle(1), 0);
        CHECK.due("17: made(6)", yard.made(6), 0);
        CHECK.throwsIndex("30: none", yard, 0, 0);
    }
}
