/** Promises 31 to 36: load, overloaded, light, dark, faces, path. */
public final class LooksTest {
    private static final Check CHECK = new Check("LooksTest");
    private static final int[] NO_YARD = {-1, 4, Integer.MIN_VALUE, Integer.MAX_VALUE};

    public static void main(String[] args) {
        loads();
        overloads();
        lightInTheOpen();
        lightThroughBlocks();
        lightOfSeveralLamps();
        lightRoundCorners();
        lightRefusals();
        dark();
        faces();
        stands();
        stepsUpAndDown();
        stepsAtTheTop();
        waysRound();
        pathRefusals();
        CHECK.end();
    }

    private static void loads() {
        StackYard yard = new StackYard();
        yard.kind(10, 0, 0, 1, false);
        yard.kind(200, 0, 0, 1, true);
        yard.kind(10000, 0, 0, 1, false);
        Build.open(yard, 0, 10, 1, 3);
        yard.put(0, 0, 0, 0, 1);
        CHECK.due("31: nothing above", yard.load(0, 0, 0, 0), 0);
        yard.put(0, 1, 0, 0, 2);
        CHECK.due("31: one above", yard.load(0, 0, 0, 0), 200);
        yard.put(0, 2, 0, 0, 1);
        CHECK.due("31: two above", yard.load(0, 0, 0, 0), 210);
        CHECK.due("31: one above the second", yard.load(0, 1, 0, 0), 10);
        CHECK.due("31: none above the third", yard.load(0, 2, 0, 0), 0);
        yard.put(0, 4, 0, 0, 1);
        CHECK.due("31: none beyond an open cell", yard.load(0, 0, 0, 0), 210);
        yard.put(0, 3, 0, 0, 1);
        CHECK.due("31: till it is filled", yard.load(0, 0, 0, 0), 230);
        yard.put(0, 1, 0, 1, 3);
        CHECK.due("31: none from the side", yard.load(0, 0, 0, 0), 230);
        yard.row(0, 3, 0, 0);
        CHECK.due("31: none beyond a missing cell", yard.load(0, 0, 0, 0), 210);
        for (int z = 0; z < 10; z++) {
            yard.put(0, z, 0, 2, 3);
        }
        yard.row(0, 3, 0, 3);
        yard.put(0, 3, 0, 2, 3);
        CHECK.due("31: the greatest", yard.load(0, 0, 0, 2), 90000);
        CHECK.due("31: the highest", yard.load(0, 9, 0, 2), 0);
        CHECK.due("31: an open cell", yard.load(0, 0, 0, 1), -1);
        CHECK.due("31: no such cell", yard.load(0, 0, 0, 3), -1);
        CHECK.due("31: no such layer", yard.load(0, 10, 0, 0), -1);
        CHECK.due("31: a missing row", yard.load(0, 0, 1, 0), -1);
        for (int wrong : NO_YARD) {
            CHECK.due("31: no such yard", yard.load(wrong, 0, 0, 0), -1);
            CHECK.due("32: no such yard", yard.overloaded(wrong), -1);
        }
    }

    private static void overloads() {
        StackYard yard = new StackYard();
        yard.kind(5, 5, 0, 1, false);
        yard.kind(1, 0, 0, 1, false);
        yard.kind(10000, 1000000, 0, 1, false);
        Build.open(yard, 0, 4, 2, 2);
        yard.put(0, 0, 0, 0, 1);
        yard.put(0, 1, 0, 0, 1);
        CHECK.due("32: as much as it is strong", yard.overloaded(0), 0);
        yard.put(0, 2, 0, 0, 2);
        CHECK.due("32: one more", yard.overloaded(0), 1);
        yard.put(0, 3, 0, 0, 2);
        CHECK.due("32: strength 0 under one", yard.overloaded(0), 2);
        yard.put(0, 0, 1, 1, 3);
        yard.put(0, 1, 1, 1, 3);
        yard.put(0, 2, 1, 1, 2);
        yard.put(0, 3, 1, 1, 3);
        CHECK.due("32: of two stacks", yard.overloaded(0), 3);
        yard.box(1);
        CHECK.due("32: not of the box alone", yard.overloaded(0), 3);
        CHECK.due("32: a missing yard", yard.overloaded(1), 0);
    }

    /** Kind 1 a block of loss 3, 2 a lamp of light 15, 3 a lamp of light 2, 4 a block of loss 16, 5 of loss 1. */
    private static StackYard lamps(int layers, int rows, int length) {
        StackYard yard = new StackYard();
        yard.kind(1, 1, 0, 3, false);
        yard.kind(1, 1, 15, 2, false);
        yard.kind(1, 1, 2, 1, false);
        yard.kind(1, 1, 0, 16, false);
        yard.kind(1, 1, 0, 1, false);
        Build.open(yard, 0, layers, rows, length);
        return yard;
    }

    private static void lightOf(String when, StackYard yard, int z, int x, int w, int due) {
        CHECK.due("33: " + when + ": light(0, " + z + ", " + x + ", " + w + ")", yard.light(0, z, x, w), due);
    }

    private static void lightInTheOpen() {
        StackYard yard = lamps(10, 10, 10);
        lightOf("no lamp", yard, 0, 0, 0, 0);
        yard.put(0, 4, 5, 6, 2);
        for (int z = 0; z < 10; z++) {
            for (int x = 0; x < 10; x += 3) {
                for (int w = 0; w < 10; w += 3) {
                    int away = Math.abs(z - 4) + Math.abs(x - 5) + Math.abs(w - 6);
                    lightOf("one lamp", yard, z, x, w, Math.max(0, 15 - away));
                }
            }
        }
        lightOf("the lamp itself", yard, 4, 5, 6, 15);
        yard.put(0, 4, 5, 6, 3);
        lightOf("a lamp of 2", yard, 4, 5, 6, 2);
        lightOf("one from it", yard, 5, 5, 6, 1);
        lightOf("two from it", yard, 6, 5, 6, 0);
        lightOf("three from it", yard, 7, 5, 6, 0);
    }

    private static void lightThroughBlocks() {
        StackYard yard = lamps(1, 1, 8);
        yard.put(0, 0, 0, 0, 2);
        yard.put(0, 0, 0, 2, 1);
        yard.put(0, 0, 0, 4, 1);
        int[] due = {15, 14, 11, 10, 7, 6, 5, 4};
        for (int w = 0; w < 8; w++) {
            lightOf("through two blocks", yard, 0, 0, w, due[w]);
        }
        yard.put(0, 0, 0, 4, 4);
        lightOf("at a block of loss 16", yard, 0, 0, 4, 0);
        lightOf("behind it", yard, 0, 0, 5, 0);
        yard.put(0, 0, 0, 4, 5);
        lightOf("at a block of loss 1", yard, 0, 0, 4, 9);
        yard.row(0, 0, 0, 2);
        lightOf("in a shorter row", yard, 0, 0, 1, 0);
        // what is not there lets nothing through
        StackYard gap = lamps(3, 1, 1);
        gap.put(0, 0, 0, 0, 2);
        lightOf("through a layer", gap, 2, 0, 0, 13);
        gap.less(0, 1);
        lightOf("over a missing layer", gap, 2, 0, 0, 0);
        StackYard ends = lamps(1, 2, 10);
        ends.put(0, 0, 0, 9, 2);
        ends.row(0, 0, 0, 10);
        ends.put(0, 0, 0, 9, 3);
        lightOf("the next row's first is no neighbour", ends, 0, 1, 0, 0);
    }

    private static void lightOfSeveralLamps() {
        StackYard yard = lamps(1, 1, 10);
        yard.put(0, 0, 0, 0, 2);
        yard.put(0, 0, 0, 5, 3);
        lightOf("a weak lamp, lit by a strong one", yard, 0, 0, 5, 10);
        lightOf("behind it", yard, 0, 0, 6, 9);
        yard.put(0, 0, 0, 3, 4);
        lightOf("the weak one in the shade", yard, 0, 0, 5, 2);
        lightOf("behind it", yard, 0, 0, 6, 1);
        lightOf("two behind it", yard, 0, 0, 7, 0);
        yard.put(0, 0, 0, 9, 2);
        lightOf("between two", yard, 0, 0, 7, 13);
        lightOf("the weak one from there", yard, 0, 0, 5, 11);
        lightOf("at the block between", yard, 0, 0, 3, 0);
        lightOf("through a lamp of loss 2", yard, 0, 0, 2, 13);
        yard.put(0, 0, 0, 1, 2);
        lightOf("a lamp beside a lamp", yard, 0, 0, 1, 15);
        lightOf("and from it", yard, 0, 0, 2, 14);
    }

    private static void lightRoundCorners() {
        StackYard yard = lamps(1, 3, 5);
        yard.put(0, 0, 0, 0, 2);
        for (int x = 0; x < 2; x++) {
            yard.put(0, 0, x, 1, 4);
            yard.put(0, 0, x + 1, 3, 4);
        }
        lightOf("round one corner", yard, 0, 2, 1, 12);
        lightOf("round two", yard, 0, 0, 2, 9);
        lightOf("round three", yard, 0, 2, 4, 5);
        yard.put(0, 0, 0, 1, 1);
        lightOf("through the wall is less far", yard, 0, 0, 2, 11);
        lightOf("and from there", yard, 0, 2, 4, 7);
    }

    private static void lightRefusals() {
        StackYard yard = lamps(1, 1, 1);
        for (int wrong : NO_YARD) {
            CHECK.due("33: no such yard", yard.light(wrong, 0, 0, 0), -1);
            CHECK.due("34: no such yard", yard.dark(wrong, 5), -1);
        }
        lightOf("no such layer", yard, 10, 0, 0, -1);
        lightOf("a missing layer", yard, 1, 0, 0, -1);
        lightOf("no such row", yard, 0, -1, 0, -1);
        lightOf("a missing row", yard, 0, 1, 0, -1);
        lightOf("no such cell", yard, 0, 0, 1, -1);
    }

    private static void dark() {
        StackYard yard = lamps(1, 2, 6);
        CHECK.due("34: all", yard.dark(0, 1), 12);
        CHECK.due("34: below 0", yard.dark(0, 0), 0);
        yard.put(0, 0, 0, 0, 3);
        yard.put(0, 0, 1, 5, 1);
        // light: 2 1 0 0 0 0 and 1 0 0 0 0 and a block
        CHECK.due("34: below 1", yard.dark(0, 1), 8);
        CHECK.due("34: below 2, no blocks", yard.dark(0, 2), 10);
        CHECK.due("34: below 16", yard.dark(0, 16), 10);
        CHECK.due("34: below the greatest", yard.dark(0, Integer.MAX_VALUE), 10);
        CHECK.due("34: below -1", yard.dark(0, -1), 0);
        CHECK.due("34: below the least", yard.dark(0, Integer.MIN_VALUE), 0);
        yard.put(0, 0, 0, 0, 2);
        CHECK.due("34: below 14", yard.dark(0, 14), 8);
        CHECK.due("34: below 15", yard.dark(0, 15), 10);
        CHECK.due("34: a missing yard", yard.dark(1, 16), 0);
    }

    private static void faces() {
        StackYard yard = Build.plain(10, 10, 10);
        CHECK.due("35: no blocks", yard.faces(0), 0);
        yard.put(0, 0, 0, 0, 1);
        CHECK.due("35: one in the corner", yard.faces(0), 6);
        yard.put(0, 9, 9, 9, 1);
        CHECK.due("35: two", yard.faces(0), 12);
        yard.put(0, 0, 0, 1, 1);
        yard.put(0, 0, 1, 0, 1);
        yard.put(0, 1, 0, 0, 1);
        CHECK.due("35: one with three neighbours", yard.faces(0), 6 + 3 + 15);
        yard.box(1);
        CHECK.due("35: not of the box alone", yard.faces(0), 24);
        yard.box(909091);
        yard.put(0, 0, 0, 0, 0);
        CHECK.due("35: an open cell between", yard.faces(0), 24);
        yard.box(Build.box(0, 9, 0, 9, 0, 9));
        yard.fill(0, 1, 0);
        CHECK.due("35: all blocks", yard.faces(0), 600);
        yard.put(0, 5, 5, 5, 0);
        CHECK.due("35: a hole", yard.faces(0), 606);
        yard.row(0, 0, 0, 9);
        yard.fill(0, 1, 0);
        CHECK.due("35: a missing corner", yard.faces(0), 600);
        CHECK.due("35: a missing yard", yard.faces(1), 0);
        for (int wrong : NO_YARD) {
            CHECK.due("35: no such yard", yard.faces(wrong), -1);
        }
    }

    private static void way(String when, StackYard yard, int from, int to, int due) {
        CHECK.due("36: " + when + ": path(0, " + from + ", " + to + ")", yard.path(0, from, to), due);
    }

    private static void stands() {
        StackYard yard = Build.plain(3, 2, 3);
        way("on the ground", yard, 0, 0, 0);
        way("over nothing", yard, 100, 100, -1);
        yard.put(0, 0, 0, 0, 1);
        way("in a block", yard, 0, 0, -1);
        way("on a block", yard, 100, 100, 0);
        way("two above", yard, 200, 200, -1);
        yard.less(0, 0);
        way("over a missing layer", yard, 100, 100, -1);
        way("in a missing layer", yard, 0, 0, -1);
        way("in a missing row", yard, 120, 120, -1);
        way("beyond a row", yard, 103, 103, -1);
        StackYard flat = Build.plain(1, 10, 10);
        way("to the last", flat, 0, 99, 18);
        way("to the next", flat, 0, 1, 1);
        way("aside", flat, 0, 11, 2);
        way("the next row's first is no neighbour", flat, 9, 10, 10);
        way("back", flat, 10, 9, 10);
    }

    private static void stepsUpAndDown() {
        // a row of layers 0 to 3, columns of height 0, 1, 2, 0 at w 0 to 3
        StackYard yard = Build.plain(4, 1, 4);
        yard.put(0, 0, 0, 1, 1);
        yard.put(0, 0, 0, 2, 1);
        yard.put(0, 1, 0, 2, 1);
        way("one up", yard, 0, 101, 1);
        way("two up", yard, 0, 202, 2);
        way("one down", yard, 101, 0, 1);
        way("two down", yard, 202, 0, 2);
        way("down by two at once", yard, 202, 3, -1);
        way("up by two at once", yard, 3, 202, -1);
        yard.put(0, 0, 0, 3, 1);
        way("down by one, then", yard, 202, 103, 1);
        way("over it", yard, 0, 103, 3);
        // a block above the one that is left, or that is come to
        yard.put(0, 1, 0, 0, 1);
        way("up under a block", yard, 0, 101, -1);
        way("down under a block", yard, 101, 0, -1);
        yard.put(0, 1, 0, 0, 0);
        yard.put(0, 2, 0, 1, 1);
        way("up from under a block two above", yard, 0, 101, 1);
        way("up under a block, later", yard, 0, 202, -1);
        way("down under a block, first", yard, 202, 101, -1);
        way("down the other way", yard, 202, 103, 1);
        StackYard low = Build.plain(2, 1, 3);
        low.put(0, 1, 0, 1, 1);
        low.put(0, 1, 0, 0, 1);
        way("level under blocks", low, 0, 2, 2);
        way("level back", low, 2, 0, 2);
    }

    private static void stepsAtTheTop() {
        StackYard yard = Build.plain(10, 2, 2);
        yard.put(0, 8, 0, 0, 1);
        yard.put(0, 8, 0, 1, 1);
        yard.put(0, 7, 1, 1, 1);
        way("level in layer 9", yard, 900, 901, 1);
        way("down from layer 9", yard, 901, 811, 1);
        way("up to layer 9", yard, 811, 900, 2);
        way("not over an edge", yard, 900, 811, 2);
        // what is not there above hinders no more than what is open
        yard.row(0, 9, 1, 0);
        way("up with nothing above", yard, 811, 901, 1);
        way("down with nothing above", yard, 901, 811, 1);
        yard.less(0, 9);
        way("no layer to go to", yard, 811, 901, -1);
        StackYard two = Build.plain(2, 2, 1);
        two.put(0, 0, 1, 0, 1);
        way("along x, up", two, 0, 110, 1);
        way("along x, down", two, 110, 0, 1);
        two.put(0, 1, 0, 0, 1);
        way("along x, up under a block", two, 0, 110, -1);
        two.row(0, 1, 0, 0);
        way("along x, up under nothing", two, 0, 110, 1);
        way("along x, down under nothing", two, 110, 0, 1);
    }

    private static void waysRound() {
        StackYard yard = Build.plain(3, 5, 5);
        for (int x = 0; x < 4; x++) {
            yard.put(0, 0, x, 1, 1);
            yard.put(0, 1, x, 1, 1);
            yard.put(0, 0, 4 - x, 3, 1);
            yard.put(0, 1, 4 - x, 3, 1);
        }
        way("round two walls", yard, 0, 4, 12);
        way("round two walls, far", yard, 0, 44, 16);
        yard.put(0, 0, 2, 0, 1);
        way("up a stair and over", yard, 0, 2, 10);
        way("on the wall", yard, 0, 221, 3);
        way("along the wall", yard, 0, 201, 5);
        yard.put(0, 0, 2, 2, 1);
        way("over by two stairs", yard, 0, 2, 6);
        yard.put(0, 0, 4, 1, 1);
        yard.put(0, 1, 4, 1, 1);
        yard.put(0, 0, 2, 0, 0);
        way("shut in", yard, 0, 2, -1);
        way("but inside", yard, 0, 40, 4);
        way("down into it from above", yard, 201, 0, -1);
    }

    private static void pathRefusals() {
        StackYard yard = Build.plain(10, 10, 10);
        for (int wrong : NO_YARD) {
            CHECK.due("36: no such yard", yard.path(wrong, 0, 0), -1);
        }
        int[] noCell = {-1, -10, 1000, 1001, 1100, Integer.MIN_VALUE, Integer.MAX_VALUE};
        for (int wrong : noCell) {
            way("no such number", yard, wrong, 0, -1);
            way("no such number", yard, 0, wrong, -1);
            way("no such number twice", yard, wrong, wrong, -1);
        }
        way("from no stand", yard, 100, 0, -1);
        way("to no stand", yard, 0, 100, -1);
        CHECK.due("36: a missing yard", yard.path(1, 0, 0), -1);
    }
}
