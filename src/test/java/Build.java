/** Makes yards for tests in few words. */
final class Build {
    private Build() {
    }

    /** Layers 0 to layers - 1 of yard y, each with rows 0 to rows - 1 of that length. */
    static void open(StackYard yard, int y, int layers, int rows, int length) {
        for (int z = 0; z < layers; z++) {
            yard.layer(y, z);
            for (int x = 0; x < rows; x++) {
                yard.row(y, z, x, length);
            }
        }
    }

    /** A new object with one kind (weight 1, strength 1, no lamp, loss 1) and yard 0 open. */
    static StackYard plain(int layers, int rows, int length) {
        StackYard yard = new StackYard();
        yard.kind(1, 1, 0, 1, false);
        open(yard, 0, layers, rows, length);
        return yard;
    }

    static int box(int z, int z2, int x, int x2, int w, int w2) {
        return 1000000 * z + 100000 * z2 + 10000 * x + 1000 * x2 + 100 * w + 10 * w2 + 1;
    }

    static int shift(int dz, int dx, int dw) {
        return 10000 * (dz + 9) + 100 * (dx + 9) + dw + 9;
    }
}
