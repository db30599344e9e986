import java.util.Arrays;

/**
 * Long runs of calls, with numbers from a fixed row, answered by the program and by Model: each answer is
 * to be the same. The first argument, if given, is how many runs, the second the first run's number.
 */
public final class RandomRunsTest {
    private static final int CALLS = 512;
    private static final int RUNS = 400;

    /** What a call may be, and how often, beside the others. */
    private static final String[] KINDS_OF_CALL = {
        "scatter", "scatter", "scatter", "scatter", "put", "put", "put", "face", "face",
        "kind", "product", "layer", "row", "less", "there", "at", "turnAt",
        "share", "keep", "keep", "back", "forget", "same", "same", "same", "made", "made", "made", "made",
        "box", "box", "box", "box", "fill", "fill", "replace", "count", "hollow", "move", "move", "move",
        "turnBox", "turnBox", "turnBox", "cut", "parts", "part", "partOf", "partOf", "partOf",
        "settle", "settle", "fallen", "fallen", "load", "overloaded", "light", "light", "dark", "faces",
        "path", "path", "path", "places", "place", "place", "differs",
        "pattern", "pattern", "solid", "grate",
    };

    private final Check check;
    private final int run;
    private final Calls calls = new Calls();
    private final Model model = calls.model;
    private final StringBuilder told = new StringBuilder();
    private final int side;
    private final int wrongOf;
    private long state;
    private boolean agree = true;

    private RandomRunsTest(Check check, int run) {
        this.check = check;
        this.run = run;
        state = 88172645463325252L + 1000003L * run;
        int[] sides = {2, 3, 3, 4, 5, 10};
        side = sides[run % sides.length];
        // of some runs every eighth number is wrong, of a few every third: most calls are refused there
        wrongOf = run % 4 != 0 ? 60 : run % 16 == 0 ? 3 : 8;
    }

    public static void main(String[] args) {
        int runs = args.length > 0 ? Integer.parseInt(args[0]) : RUNS;
        int first = args.length > 1 ? Integer.parseInt(args[1]) : 0;
        Check check = new Check("RandomRunsTest");
        for (int run = first; run < first + runs; run++) {
            new RandomRunsTest(check, run).go();
        }
        check.end();
    }

    private void ask(String name, long... arguments) {
        if (calls.made == CALLS || !agree) {
            return;
        }
        long got = calls.ofYard(name, arguments);
        long want = calls.ofModel(name, arguments);
        String call = name + Arrays.toString(arguments);
        told.append(call).append(" = ").append(got).append('\n');
        check.due("run " + run + ": " + call, got, want);
        if (got != want) {
            agree = false;
            System.out.println(told);
        }
    }

    // ---- numbers ----

    private int below(int bound) {
        state ^= state << 13;
        state ^= state >>> 7;
        state ^= state << 17;
        return (int) ((state >>> 11) % bound);
    }

    private boolean wrong() {
        return below(wrongOf) == 0;
    }

    private boolean oneIn(int n) {
        return below(n) == 0;
    }

    /** One of least to most, now and then one just beside them or far off. */
    private int of(int least, int most) {
        if (wrong()) {
            int[] off = {least - 1, most + 1, Integer.MIN_VALUE, Integer.MAX_VALUE, -1};
            return off[below(off.length)];
        }
        return least + below(most - least + 1);
    }

    private int y() {
        return oneIn(3) ? of(0, 3) : 0;
    }

    private int place() {
        return wrong() ? of(0, 9) : below(side);
    }

    private int someKind(int least) {
        return of(least, Math.max(least, Math.min(5, model.made(4))));
    }

    private int shift() {
        if (wrong()) {
            int[] off = {-1, 181818, 181819, 181918, 191818, 1909, Integer.MAX_VALUE, Integer.MIN_VALUE};
            return off[below(off.length)];
        }
        int far = oneIn(3) ? side : 2;
        return Build.shift(below(2 * far - 1) - far + 1, below(2 * far - 1) - far + 1, below(2 * far - 1) - far + 1);
    }

    private int boxTold() {
        if (wrong()) {
            int[] off = {0, -9, 909090, 10909091, 9090911, 10090909, 900091, 909901, 1, Integer.MIN_VALUE, -909091};
            return off[below(off.length)];
        }
        int z = below(side);
        int x = below(side);
        int w = below(side);
        if (oneIn(2)) {
            // a cube: it can be turned in each way
            int l = below(side - Math.max(z, Math.max(x, w)));
            return Build.box(z, z + l, x, x + l, w, w + l);
        }
        int lastZ = Math.min(9, z + below(side));
        int lastX = Math.min(9, x + below(side));
        int lastW = Math.min(9, w + below(side));
        return Build.box(z, lastZ, x, lastX, w, lastW);
    }

    // ---- calls ----

    private void go() {
        for (int k = 0; k < 4; k++) {
            kind();
        }
        for (int z = 0; z < side; z++) {
            openLayer(0, z);
        }
        ask("box", Build.box(0, side - 1, 0, side - 1, 0, side - 1));
        while (calls.made < CALLS && agree) {
            call(KINDS_OF_CALL[below(KINDS_OF_CALL.length)]);
        }
    }

    private void kind() {
        int weight = of(1, oneIn(3) ? 10000 : 20);
        int strength = of(0, oneIn(3) ? 1000000 : 40);
        int light = oneIn(3) ? of(0, 15) : 0;
        int loss = of(1, oneIn(2) ? 16 : 3);
        ask("kind", weight, strength, light, loss, oneIn(5) ? 1 : 0);
    }

    private void openLayer(int y, int z) {
        ask("layer", y, z);
        for (int x = 0; x < side; x++) {
            if (!oneIn(15)) {
                ask("row", y, z, x, oneIn(8) ? of(0, 10) : side);
            }
        }
    }

    private void scatter(int y) {
        int kind = someKind(0);
        for (int n = below(side * side); n >= 0; n--) {
            int z = place();
            int x = place();
            int w = place();
            ask("put", y, z, x, w, oneIn(3) ? someKind(0) : kind);
            if (oneIn(3)) {
                ask("face", y, z, x, w, of(0, 23));
            }
        }
    }

    private void call(String name) {
        int y = y();
        int u = of(0, 3);
        int z = place();
        int x = place();
        int w = place();
        switch (name) {
            case "scatter": scatter(y); break;
            case "kind": kind(); break;
            case "product": ask(name, of(0, 23), of(0, 23)); break;
            case "layer": rebuild(y, z); break;
            case "row": ask(name, y, z, x, oneIn(4) ? of(0, 10) : side); break;
            case "less": ask(name, y, oneIn(3) ? z : of(0, 9)); break;
            case "put": ask(name, y, z, x, w, someKind(0)); break;
            case "face": ask(name, y, z, x, w, of(0, 23)); break;
            case "there": case "at": case "turnAt": case "part": case "load": case "light":
                ask(name, y, z, x, w); break;
            case "share": ask(name, y, oneIn(3) ? u : of(1, 3)); break;
            case "keep": ask(name, of(0, 11), y); break;
            case "back": ask(name, of(0, 11), of(0, 3)); break;
            case "forget": ask(name, of(0, 11)); break;
            case "same": ask(name, y, z, u, oneIn(5) ? place() : z, oneIn(3) ? of(0, 10) : x + 1); break;
            case "made": ask(name, of(0, 6)); break;
            case "box": ask(name, boxTold()); break;
            case "fill": ask(name, y, someKind(0), of(0, 23)); break;
            case "replace": ask(name, y, someKind(1), someKind(0)); break;
            case "count": ask(name, y, someKind(0)); break;
            case "cut": cut(y); break;
            case "hollow": case "parts": case "settle": case "overloaded": case "faces":
                ask(name, y); break;
            case "move": ask(name, y, oneIn(2) ? y : u, shift(), oneIn(2) ? 1 : 0); break;
            case "turnBox": ask(name, y, of(0, 23)); break;
            case "partOf": ask(name, y, of(0, Math.max(0, model.parts(y) - 1)), of(0, 3)); break;
            case "fallen": ask(name, of(0, Math.max(0, model.made(6) - 1)), of(0, 1)); break;
            case "dark": ask(name, y, of(0, 16)); break;
            case "path": path(y); break;
            case "places": case "differs": ask(name, y, u); break;
            case "place": ask(name, y, u, of(0, 3)); break;
            case "pattern": pattern(y, of(1, 3)); break;
            case "solid": solid(y); break;
            case "grate": grate(y); break;
            default: throw new IllegalStateException(name);
        }
    }

    private void rebuild(int y, int z) {
        if (oneIn(4)) {
            openLayer(y, z);
        }
    }

    private void cut(int y) {
        if (oneIn(3)) {
            int far = Integer.MAX_VALUE;
            ask("cut", y, of(-far, far - 2), of(-far, far - 2), of(-far, far - 2), of(-far, far - 2));
        } else if (oneIn(2)) {
            ask("cut", y, of(-5, 5), of(-5, 5), of(-5, 5), of(-5, 5 * side));
        }
    }

    /** A few blocks of a yard as they stand, alone in another one, are looked for. */
    private void pattern(int y, int u) {
        if (u == y || !oneIn(4)) {
            return;
        }
        ask("share", y, u);
        ask("box", Build.box(0, 9, 0, 9, 0, 9));
        ask("fill", u, 0, 0);
        int z = below(side);
        int x = below(side);
        int w = below(side);
        ask("box", Build.box(z, Math.min(9, z + below(2)), x, Math.min(9, x + below(2)), w, Math.min(9, w + below(2))));
        ask("move", y, u, oneIn(2) ? Build.shift(0, 0, 0) : shift(), 0);
        ask("places", y, u);
        for (int n = below(4); n >= 0; n--) {
            ask("place", y, u, of(0, Math.max(0, model.places(y, u))));
        }
    }

    private void solid(int y) {
        ask("fill", y, someKind(1), of(0, 23));
        if (oneIn(2)) {
            ask("put", y, place(), place(), place(), someKind(0));
        }
        ask("hollow", y);
    }

    /** Of what stands in every second place along each axis no part hangs together with another one. */
    private void grate(int y) {
        if (!oneIn(3)) {
            return;
        }
        ask("box", Build.box(0, 9, 0, 9, 0, 9));
        ask("fill", y, someKind(1), of(0, 23));
        for (int odd = 1; odd < side; odd += 2) {
            ask("box", Build.box(odd, odd, 0, 9, 0, 9));
            ask("fill", y, 0, 0);
            ask("box", Build.box(0, 9, odd, odd, 0, 9));
            ask("fill", y, 0, 0);
            ask("box", Build.box(0, 9, 0, 9, odd, odd));
            ask("fill", y, 0, 0);
        }
        ask("box", Build.box(0, 9, 0, 9, 0, 9));
        ask("parts", y);
        ask("settle", y);
        ask("fallen", below(125), below(2));
        ask("fallen", 59 + below(2), below(2));
    }

    /** Between cells that are open, so that there are ways at all. */
    private void path(int y) {
        int[] ends = new int[2];
        for (int i = 0; i < 2; i++) {
            for (int tries = 0; tries < 20; tries++) {
                int z = place();
                int x = place();
                int w = place();
                ends[i] = 100 * z + 10 * x + w;
                if (model.at(y, z, x, w) == 0 && (z == 0 || model.at(y, z - 1, x, w) > 0)) {
                    break;
                }
            }
        }
        ask("path", y, wrong() ? of(0, 999) : ends[0], wrong() ? of(0, 999) : ends[1]);
    }
}
