/** Promises 1 to 3: a new object, kind, product. */
public final class KindsAndTurnsTest {
    private static final Check CHECK = new Check("KindsAndTurnsTest");

    public static void main(String[] args) {
        aNewObject();
        kindsAreNumberedFromOne();
        eachNumberOfAKindHasItsRange();
        thirtyKindsAtMost();
        productsByHand();
        productsAreAGroup();
        noProductOfNoTurn();
        CHECK.end();
    }

    private static void aNewObject() {
        StackYard yard = new StackYard();
        CHECK.due("NONE", StackYard.NONE, -1);
        for (int what = 0; what <= 6; what++) {
            CHECK.due("1: made(" + what + ")", yard.made(what), 0);
        }
        for (int y = 0; y < 4; y++) {
            for (int z = 0; z < 10; z++) {
                CHECK.due("1: there(" + y + ", " + z + ", 0, 0)", yard.there(y, z, 0, 0), 2);
            }
            CHECK.due("1: count(" + y + ", 0)", yard.count(y, 0), 0);
        }
        for (int s = 0; s < 12; s++) {
            CHECK.due("1: back(" + s + ", 0)", yard.back(s, 0), false);
            CHECK.due("1: forget(" + s + ")", yard.forget(s), false);
        }
        CHECK.throwsIndex("1: fallen(0, 0)", yard, 0, 0);
        CHECK.throwsIndex("1: fallen(0, 1)", yard, 0, 1);
        yard.layer(0, 0);
        yard.row(0, 0, 0, 1);
        CHECK.due("1: put of kind 1", yard.put(0, 0, 0, 0, 1), 6);
        // the box of a new object is everything
        Build.open(yard, 0, 10, 10, 10);
        CHECK.due("1: count(0, 0) of all", yard.count(0, 0), 1000);
        // another object has nothing of it
        CHECK.due("1: there(0, 0, 0, 0) of another", new StackYard().there(0, 0, 0, 0), 2);
    }

    private static void kindsAreNumberedFromOne() {
        StackYard yard = new StackYard();
        CHECK.due("2: kind, all least", yard.kind(1, 0, 0, 1, false), 1);
        CHECK.due("2: kind, all greatest", yard.kind(10000, 1000000, 15, 16, true), 2);
        CHECK.due("2: kind, the same again", yard.kind(10000, 1000000, 15, 16, true), 3);
        CHECK.due("2: made(4)", yard.made(4), 3);
    }

    private static void eachNumberOfAKindHasItsRange() {
        StackYard yard = new StackYard();
        int[][] wrong = {
            {0, 0, 0, 1}, {-1, 0, 0, 1}, {10001, 0, 0, 1}, {Integer.MAX_VALUE, 0, 0, 1}, {Integer.MIN_VALUE, 0, 0, 1},
            {1, -1, 0, 1}, {1, 1000001, 0, 1}, {1, Integer.MAX_VALUE, 0, 1}, {1, Integer.MIN_VALUE, 0, 1},
            {1, 0, -1, 1}, {1, 0, 16, 1}, {1, 0, Integer.MAX_VALUE, 1}, {1, 0, Integer.MIN_VALUE, 1},
            {1, 0, 0, 0}, {1, 0, 0, -1}, {1, 0, 0, 17}, {1, 0, 0, Integer.MAX_VALUE}, {1, 0, 0, Integer.MIN_VALUE},
        };
        for (int[] w : wrong) {
            String call = "2: kind(" + w[0] + ", " + w[1] + ", " + w[2] + ", " + w[3] + ")";
            CHECK.due(call, yard.kind(w[0], w[1], w[2], w[3], false), -1);
            CHECK.due(call + " hangs", yard.kind(w[0], w[1], w[2], w[3], true), -1);
        }
        CHECK.due("2: made(4) after wrong ones", yard.made(4), 0);
        CHECK.due("2: kind after wrong ones", yard.kind(1, 0, 0, 1, false), 1);
    }

    private static void thirtyKindsAtMost() {
        StackYard yard = new StackYard();
        for (int k = 1; k <= 30; k++) {
            CHECK.due("2: the " + k + "th kind", yard.kind(k, k, 0, 1, false), k);
        }
        CHECK.due("2: the 31st kind", yard.kind(1, 1, 0, 1, false), -1);
        CHECK.due("2: made(4)", yard.made(4), 30);
        Build.open(yard, 0, 2, 1, 1);
        CHECK.due("2: put of kind 30", yard.put(0, 1, 0, 0, 30), 0);
        CHECK.due("2: put of kind 31", yard.put(0, 1, 0, 0, 31), 6);
        yard.put(0, 0, 0, 0, 29);
        CHECK.due("2: load of kind 30", yard.load(0, 0, 0, 0), 30);
        CHECK.due("2: overloaded, kind 29 under 30", yard.overloaded(0), 1);
    }

    private static void productsByHand() {
        StackYard yard = new StackYard();
        // half turns about the three axes: 1 keeps x, 2 keeps z, 3 keeps w
        CHECK.due("3: product(1, 1)", yard.product(1, 1), 0);
        CHECK.due("3: product(2, 2)", yard.product(2, 2), 0);
        CHECK.due("3: product(3, 3)", yard.product(3, 3), 0);
        CHECK.due("3: product(1, 2)", yard.product(1, 2), 3);
        CHECK.due("3: product(2, 3)", yard.product(2, 3), 1);
        // 4 is a quarter turn about z
        CHECK.due("3: product(4, 4)", yard.product(4, 4), 2);
        CHECK.due("3: product(4, 2)", yard.product(4, 2), 6);
        CHECK.due("3: product(4, 6)", yard.product(4, 6), 0);
        // 12 sends z to x, x to w, w to z
        CHECK.due("3: product(12, 12)", yard.product(12, 12), 16);
        CHECK.due("3: product(12, 16)", yard.product(12, 16), 0);
        CHECK.due("3: product(8, 5)", yard.product(8, 5), 15);
        CHECK.due("3: product(5, 8)", yard.product(5, 8), 18);
        CHECK.due("3: product(12, 8)", yard.product(12, 8), 20);
        CHECK.due("3: product(23, 23)", yard.product(23, 23), new Model().product(23, 23));
    }

    private static void productsAreAGroup() {
        Model model = new Model();
        for (int t = 0; t < 24; t++) {
            StackYard yard = new StackYard();
            CHECK.due("3: product(" + t + ", 0)", yard.product(t, 0), t);
            CHECK.due("3: product(0, " + t + ")", yard.product(0, t), t);
            int seen = 0;
            for (int s = 0; s < 24; s++) {
                int both = yard.product(t, s);
                seen |= 1 << both;
                CHECK.due("3: product(" + t + ", " + s + ")", both, model.product(t, s));
            }
            CHECK.due("3: products of " + t, seen, (1 << 24) - 1);
        }
    }

    private static void noProductOfNoTurn() {
        StackYard yard = new StackYard();
        int[] wrong = {-1, 24, 25, Integer.MIN_VALUE, Integer.MAX_VALUE};
        for (int t : wrong) {
            CHECK.due("3: product(" + t + ", 0)", yard.product(t, 0), -1);
            CHECK.due("3: product(23, " + t + ")", yard.product(23, t), -1);
            CHECK.due("3: product(" + t + ", " + t + ")", yard.product(t, t), -1);
        }
    }
}
