/** Promises 18 to 25: box, fill, replace, count, hollow, move, turnBox, cut. */
public final class RegionsTest {
    private static final Check CHECK = new Check("RegionsTest");
    private static final int[] NO_YARD = {-1, 4, Integer.MIN_VALUE, Integer.MAX_VALUE};
    private static final int[] NO_TURN = {-1, 24, Integer.MIN_VALUE, Integer.MAX_VALUE};
    private static final String[] ORDERS = {"012", "021", "102", "120", "201", "210"};

    public static void main(String[] args) {
        boxes();
        noBoxes();
        fills();
        replaces();
        counts();
        hollows();
        moves();
        movesOverThemselves();
        movesOfWhatIsHeld();
        movesFarAndRefused();
        turnsOfABox();
        turnsOneAfterTheOther();
        boxesThatDoNotGoToThemselves();
        turnsChangeOnlyWhatDiffers();
        cuts();
        CHECK.end();
    }

    private static StackYard all() {
        StackYard yard = Build.plain(10, 10, 10);
        yard.kind(2, 2, 0, 1, false);
        return yard;
    }

    private static void boxes() {
        for (int axis = 0; axis < 3; axis++) {
            StackYard yard = all();
            for (int least = 0; least < 10; least++) {
                for (int most = 0; most < 10; most++) {
                    int[] b = {0, 9, 0, 9, 0, 9};
                    b[2 * axis] = least;
                    b[2 * axis + 1] = most;
                    int told = Build.box(b[0], b[1], b[2], b[3], b[4], b[5]);
                    CHECK.due("18: box(" + told + ")", yard.box(told), least <= most);
                    if (least <= most) {
                        CHECK.due("18: its cells", yard.count(0, 0), 100 * (most - least + 1));
                    }
                }
            }
        }
        StackYard yard = all();
        yard.put(0, 1, 4, 7, 1);
        yard.put(0, 3, 5, 8, 1);
        yard.put(0, 3, 5, 9, 1);
        CHECK.due("18: box(1345781)", yard.box(1345781), true);
        CHECK.due("18: its blocks", yard.count(0, 1), 2);
        CHECK.due("18: its open cells", yard.count(0, 0), 3 * 2 * 2 - 2);
    }

    private static void noBoxes() {
        StackYard yard = all();
        yard.box(Build.box(2, 4, 2, 4, 2, 4));
        int[] wrong = {0, -1, -9, -909091, 909090, 909092, 909099, 10909091, 10000001, 100909091, 2147483641,
            Integer.MAX_VALUE, Integer.MIN_VALUE, -2147483647, 9090911, 1009091, 910091, 909101};
        for (int told : wrong) {
            CHECK.due("18: box(" + told + ")", yard.box(told), false);
        }
        CHECK.due("18: nothing is done", yard.count(0, 0), 27);
        CHECK.due("18: box(1), the first cell", yard.box(1), true);
        CHECK.due("18: one cell", yard.count(0, 0), 1);
        CHECK.due("18: box(9999991), the last cell", yard.box(9999991), true);
        yard.put(0, 9, 9, 9, 1);
        CHECK.due("18: that one", yard.count(0, 1), 1);
    }

    private static void fills() {
        StackYard yard = Build.plain(3, 3, 3);
        yard.kind(2, 2, 0, 1, false);
        yard.row(0, 1, 1, 1);
        yard.row(0, 2, 1, 0);
        CHECK.due("19: fill(0, 1, 5)", yard.fill(0, 1, 5), 22);
        CHECK.due("19: a kind", yard.at(0, 2, 2, 2), 1);
        CHECK.due("19: a turn", yard.turnAt(0, 1, 1, 0), 5);
        CHECK.due("19: what is not there stays so", yard.there(0, 1, 1, 1), 5);
        CHECK.due("19: fill(0, 1, 5) again", yard.fill(0, 1, 5), 0);
        yard.put(0, 0, 0, 0, 2);
        yard.face(0, 0, 0, 1, 6);
        yard.put(0, 0, 0, 2, 0);
        CHECK.due("19: of other kind, other turn, open", yard.fill(0, 1, 5), 3);
        CHECK.due("19: another turn alone", yard.fill(0, 1, 23), 22);
        yard.box(Build.box(1, 2, 1, 2, 1, 2));
        CHECK.due("19: a box", yard.fill(0, 2, 0), 4);
        CHECK.due("19: in it", yard.at(0, 1, 2, 1), 2);
        CHECK.due("19: beside it", yard.at(0, 0, 2, 2), 1);
        CHECK.due("19: kind 0", yard.fill(0, 0, 7), 4);
        CHECK.due("19: open", yard.at(0, 1, 2, 1), 0);
        CHECK.due("19: an open cell has turn 0", yard.turnAt(0, 1, 2, 1), 0);
        CHECK.due("19: kind 0 again", yard.fill(0, 0, 8), 0);
        CHECK.due("19: a missing yard", yard.fill(1, 1, 1), 0);
        CHECK.due("19: turn 23", yard.fill(0, 1, 23), 4);
        for (int i = 0; i < 4; i++) {
            CHECK.due("19: no such yard", yard.fill(NO_YARD[i], 1, 0), -1);
            CHECK.due("19: no such turn", yard.fill(0, 1, NO_TURN[i]), -1);
            CHECK.due("19: no such turn for kind 0", yard.fill(0, 0, NO_TURN[i]), -1);
        }
        CHECK.due("19: kind 3", yard.fill(0, 3, 0), -1);
        CHECK.due("19: kind -1", yard.fill(0, -1, 0), -1);
        CHECK.due("19: nothing is done", yard.turnAt(0, 1, 2, 1), 23);
        StackYard kept = Build.plain(2, 2, 2);
        kept.keep(0, 0);
        kept.put(0, 1, 1, 1, 1);
        CHECK.due("19: the others", kept.fill(0, 1, 0), 7);
        CHECK.made("19: each made anew once", kept, 4, 8, 4, 8);
    }

    private static void replaces() {
        StackYard yard = Build.plain(2, 2, 2);
        yard.kind(2, 2, 0, 1, false);
        yard.fill(0, 1, 9);
        yard.put(0, 0, 0, 0, 2);
        yard.put(0, 0, 0, 1, 0);
        yard.keep(0, 0);
        CHECK.due("20: a kind by itself", yard.replace(0, 1, 1), 0);
        CHECK.made("20: changes nothing", yard, 2, 4, 2, 4);
        yard.box(Build.box(0, 0, 0, 9, 0, 9));
        CHECK.due("20: kind 1 by 2 in a box", yard.replace(0, 1, 2), 2);
        CHECK.due("20: in it", yard.at(0, 0, 1, 1), 2);
        CHECK.due("20: turns stay", yard.turnAt(0, 0, 1, 1), 9);
        CHECK.due("20: beside it", yard.at(0, 1, 1, 1), 1);
        CHECK.due("20: open ones stay", yard.at(0, 0, 0, 1), 0);
        CHECK.made("20: made anew where changed", yard, 3, 5, 3, 5);
        CHECK.due("20: none left", yard.replace(0, 1, 2), 0);
        CHECK.due("20: kind 2 by 0", yard.replace(0, 2, 0), 3);
        CHECK.due("20: open", yard.at(0, 0, 1, 1), 0);
        CHECK.due("20: open, turn 0", yard.turnAt(0, 0, 1, 1), 0);
        for (int wrong : NO_YARD) {
            CHECK.due("20: no such yard", yard.replace(wrong, 1, 2), -1);
        }
        int[] noKind = {-1, 3, 31, Integer.MIN_VALUE, Integer.MAX_VALUE};
        for (int wrong : noKind) {
            CHECK.due("20: a " + wrong, yard.replace(0, wrong, 1), -1);
            CHECK.due("20: b " + wrong, yard.replace(0, 1, wrong), -1);
        }
        CHECK.due("20: a 0", yard.replace(0, 0, 1), -1);
        CHECK.due("20: a 0, b 0", yard.replace(0, 0, 0), -1);
        CHECK.due("20: a missing yard", yard.replace(3, 1, 2), 0);
    }

    private static void counts() {
        StackYard yard = Build.plain(2, 2, 2);
        yard.kind(2, 2, 0, 1, false);
        yard.row(0, 1, 1, 1);
        yard.put(0, 0, 0, 0, 1);
        yard.face(0, 0, 0, 0, 23);
        yard.put(0, 1, 1, 0, 1);
        yard.put(0, 0, 1, 1, 2);
        CHECK.due("21: open", yard.count(0, 0), 4);
        CHECK.due("21: kind 1", yard.count(0, 1), 2);
        CHECK.due("21: kind 2", yard.count(0, 2), 1);
        yard.box(Build.box(1, 1, 0, 9, 0, 9));
        CHECK.due("21: open in a box", yard.count(0, 0), 2);
        CHECK.due("21: kind 1 in a box", yard.count(0, 1), 1);
        CHECK.due("21: kind 2 in a box", yard.count(0, 2), 0);
        CHECK.due("21: a missing yard", yard.count(1, 0), 0);
        for (int wrong : NO_YARD) {
            CHECK.due("21: no such yard", yard.count(wrong, 0), -1);
        }
        CHECK.due("21: kind 3", yard.count(0, 3), -1);
        CHECK.due("21: kind -1", yard.count(0, -1), -1);
        CHECK.due("21: greatest kind", yard.count(0, Integer.MAX_VALUE), -1);
        CHECK.due("21: least kind", yard.count(0, Integer.MIN_VALUE), -1);
    }

    private static void hollows() {
        StackYard yard = all();
        yard.fill(0, 1, 3);
        CHECK.due("22: all ten", yard.hollow(0), 512);
        CHECK.due("22: a shell", yard.count(0, 1), 488);
        CHECK.due("22: inside", yard.at(0, 1, 1, 1), 0);
        CHECK.due("22: a side", yard.at(0, 0, 1, 1), 1);
        CHECK.due("22: again", yard.hollow(0), 0);
        yard.fill(0, 1, 3);
        yard.box(Build.box(1, 1, 0, 9, 0, 9));
        // the neighbours out of the box count
        CHECK.due("22: one layer", yard.hollow(0), 64);
        yard.fill(0, 1, 3);
        yard.box(Build.box(0, 9, 0, 9, 0, 9));
        yard.put(0, 5, 5, 5, 0);
        CHECK.due("22: but the neighbours of an open one", yard.hollow(0), 512 - 7);
        StackYard five = Build.plain(3, 3, 3);
        five.fill(0, 1, 0);
        five.row(0, 2, 1, 1);
        CHECK.due("22: a neighbour that is not there", five.hollow(0), 0);
        five.row(0, 2, 1, 2);
        CHECK.due("22: a neighbour that is open", five.hollow(0), 0);
        five.put(0, 2, 1, 1, 1);
        five.keep(0, 0);
        CHECK.due("22: six neighbours", five.hollow(0), 1);
        CHECK.made("22: one row anew", five, 4, 12, 4, 10);
        CHECK.due("22: a missing yard", five.hollow(2), 0);
        for (int wrong : NO_YARD) {
            CHECK.due("22: no such yard", five.hollow(wrong), -1);
        }
    }

    private static void moves() {
        StackYard yard = Build.plain(3, 3, 3);
        Build.open(yard, 1, 3, 3, 3);
        yard.put(0, 0, 0, 0, 1);
        yard.face(0, 0, 0, 0, 13);
        yard.put(0, 0, 1, 1, 1);
        yard.fill(1, 1, 1);
        CHECK.due("23: a copy", yard.move(0, 1, Build.shift(2, 0, 1), false), 2);
        CHECK.due("23: its kind", yard.at(1, 2, 0, 1), 1);
        CHECK.due("23: its turn", yard.turnAt(1, 2, 0, 1), 13);
        CHECK.due("23: the other's turn", yard.turnAt(1, 2, 1, 2), 0);
        CHECK.due("23: open cells do not come along", yard.at(1, 2, 0, 2), 1);
        CHECK.due("23: the first ones stay", yard.count(0, 1), 2);
        yard.box(Build.box(0, 0, 1, 1, 0, 2));
        CHECK.due("23: cut, of the box alone", yard.move(0, 1, Build.shift(0, 1, -1), true), 1);
        CHECK.due("23: it is there", yard.turnAt(1, 0, 2, 0), 0);
        CHECK.due("23: it is open", yard.at(0, 0, 1, 1), 0);
        CHECK.due("23: not in the box", yard.at(0, 0, 0, 0), 1);
        CHECK.due("23: no blocks", yard.move(0, 1, Build.shift(9, 9, 9), true), 0);
    }

    private static void movesOverThemselves() {
        StackYard yard = Build.plain(1, 1, 5);
        yard.kind(2, 2, 0, 1, false);
        yard.put(0, 0, 0, 0, 1);
        yard.put(0, 0, 0, 1, 2);
        yard.face(0, 0, 0, 1, 2);
        CHECK.due("23: in one yard, not cut", yard.move(0, 0, Build.shift(0, 0, 1), false), 2);
        CHECK.due("23: cell 0 stays", yard.at(0, 0, 0, 0), 1);
        CHECK.due("23: cell 1 from 0", yard.at(0, 0, 0, 1), 1);
        CHECK.due("23: with its turn", yard.turnAt(0, 0, 0, 1), 0);
        CHECK.due("23: cell 2 from 1", yard.at(0, 0, 0, 2), 2);
        CHECK.due("23: with its turn", yard.turnAt(0, 0, 0, 2), 2);
        CHECK.due("23: in one yard, cut", yard.move(0, 0, Build.shift(0, 0, 2), true), 3);
        CHECK.due("23: open 0", yard.at(0, 0, 0, 0), 0);
        CHECK.due("23: open 1", yard.at(0, 0, 0, 1), 0);
        CHECK.due("23: 2 from 0", yard.at(0, 0, 0, 2), 1);
        CHECK.due("23: 4 from 2", yard.at(0, 0, 0, 4), 2);
        CHECK.due("23: out of the row", yard.move(0, 0, Build.shift(0, 0, 1), true), -1);
        CHECK.due("23: nothing is done", yard.at(0, 0, 0, 2), 1);
        CHECK.due("23: back down", yard.move(0, 0, Build.shift(0, 0, -2), true), 3);
        CHECK.due("23: 2 from 4", yard.at(0, 0, 0, 2), 2);
        CHECK.due("23: 3 is open", yard.at(0, 0, 0, 3), 0);
    }

    private static void movesOfWhatIsHeld() {
        StackYard yard = Build.plain(2, 2, 2);
        yard.put(0, 0, 0, 0, 1);
        yard.keep(0, 0);
        CHECK.due("23: by nothing, not cut", yard.move(0, 0, Build.shift(0, 0, 0), false), 1);
        CHECK.made("23: changes nothing", yard, 2, 4, 2, 4);
        CHECK.due("23: by nothing, cut", yard.move(0, 0, Build.shift(0, 0, 0), true), 1);
        CHECK.due("23: the block has come", yard.at(0, 0, 0, 0), 1);
        CHECK.made("23: it was open in between", yard, 3, 5, 3, 5);
        yard.share(0, 1);
        CHECK.due("23: to a yard that has all in common", yard.move(0, 1, Build.shift(0, 0, 0), true), 1);
        CHECK.due("23: 1 has it", yard.at(1, 0, 0, 0), 1);
        CHECK.due("23: 0 has not", yard.at(0, 0, 0, 0), 0);
        CHECK.made("23: only that of 0 is made anew", yard, 4, 6, 4, 6);
    }

    private static void movesFarAndRefused() {
        StackYard yard = all();
        yard.put(0, 0, 0, 0, 1);
        CHECK.due("23: the farthest", yard.move(0, 0, 181818, true), 1);
        CHECK.due("23: it is there", yard.at(0, 9, 9, 9), 1);
        CHECK.due("23: the farthest back", yard.move(0, 0, 0, true), 1);
        CHECK.due("23: it is there", yard.at(0, 0, 0, 0), 1);
        int[] wrong = {-1, 19, 99, 1900, 9900, 190000, 181819, 181918, 190909, 91909, 90919, 1000000,
            Integer.MIN_VALUE, Integer.MAX_VALUE, -90909};
        for (int told : wrong) {
            CHECK.due("23: move by " + told, yard.move(0, 0, told, true), -1);
            CHECK.due("23: no blocks by " + told, yard.move(1, 1, told, false), -1);
        }
        for (int no : NO_YARD) {
            CHECK.due("23: no such y", yard.move(no, 0, 90909, true), -1);
            CHECK.due("23: no such u", yard.move(0, no, 90909, true), -1);
        }
        int[][] out = {{-1, 0, 0}, {0, -1, 0}, {0, 0, -1}, {-1, 9, 9}, {9, -1, 9}, {9, 9, -1}};
        for (int[] d : out) {
            CHECK.due("23: out of the ten", yard.move(0, 0, Build.shift(d[0], d[1], d[2]), true), -1);
        }
        CHECK.due("23: to a missing yard", yard.move(0, 1, 90909, true), -1);
        CHECK.due("23: nothing from a missing yard", yard.move(1, 0, 90909, true), 0);
        for (int corner = 0; corner < 8; corner++) {
            int z = 9 * (corner / 4);
            int x = 9 * (corner / 2 % 2);
            int w = 9 * (corner % 2);
            yard.move(0, 0, Build.shift(z, x, w), true);
            CHECK.due("23: from a corner", yard.move(0, 0, Build.shift(9 - 2 * z, 9 - 2 * x, 9 - 2 * w), true), 1);
            CHECK.due("23: to the one across", yard.at(0, 9 - z, 9 - x, 9 - w), 1);
            CHECK.due("23: and to the first", yard.move(0, 0, Build.shift(z - 9, x - 9, w - 9), true), 1);
            CHECK.due("23: it is there", yard.at(0, 0, 0, 0), 1);
        }
        yard.put(0, 0, 0, 9, 1);
        CHECK.due("23: one of two comes nowhere", yard.move(0, 0, Build.shift(1, 0, 1), true), -1);
        CHECK.due("23: nothing is done", yard.at(0, 0, 0, 0), 1);
        CHECK.due("23: nothing is done there", yard.at(0, 1, 0, 1), 0);
        yard.put(0, 0, 0, 0, 0);
        yard.put(0, 9, 0, 9, 1);
        CHECK.due("23: from the tenth on to the next row", yard.move(0, 0, Build.shift(-1, 0, 1), true), -1);
    }

    /** Where the document sends what is behind, along the three axes, in a cube that is that long. */
    private static int[] sent(int t, int[] behind, int length) {
        int sign0 = t % 4 == 1 || t % 4 == 3 ? -1 : 1;
        int sign1 = t % 4 == 2 || t % 4 == 3 ? -1 : 1;
        int even = t / 4 == 0 || t / 4 == 3 || t / 4 == 4 ? 1 : -1;
        int[] signs = {sign0, sign1, sign0 * sign1 * even};
        int[] to = new int[3];
        for (int k = 0; k < 3; k++) {
            to[ORDERS[t / 4].charAt(k) - '0'] = signs[k] > 0 ? behind[k] : length - 1 - behind[k];
        }
        return to;
    }

    private static void turnsOfABox() {
        int[][] blocks = {{0, 0, 0, 0}, {0, 1, 2, 3}, {2, 0, 1, 23}};
        for (int t = 0; t < 24; t++) {
            StackYard yard = all();
            yard.box(Build.box(4, 6, 1, 3, 7, 9));
            yard.put(0, 3, 1, 7, 1);
            for (int[] b : blocks) {
                yard.put(0, 4 + b[0], 1 + b[1], 7 + b[2], 2);
                yard.face(0, 4 + b[0], 1 + b[1], 7 + b[2], b[3]);
            }
            CHECK.due("24: turnBox(0, " + t + ")", yard.turnBox(0, t), 3);
            CHECK.due("24: all are in the box", yard.count(0, 2), 3);
            CHECK.due("24: the one beside it stays", yard.at(0, 3, 1, 7), 1);
            for (int[] b : blocks) {
                int[] to = sent(t, b, 3);
                String at = " of turn " + t + " at " + to[0] + to[1] + to[2];
                CHECK.due("24: kind" + at, yard.at(0, 4 + to[0], 1 + to[1], 7 + to[2]), 2);
                CHECK.due("24: turn" + at, yard.turnAt(0, 4 + to[0], 1 + to[1], 7 + to[2]), yard.product(t, b[3]));
            }
        }
    }

    private static void turnsOneAfterTheOther() {
        for (int s = 0; s < 24; s++) {
            StackYard yard = Build.plain(3, 3, 3);
            yard.box(Build.box(0, 2, 0, 2, 0, 2));
            yard.put(0, 0, 0, 1, 1);
            yard.put(0, 0, 1, 2, 1);
            yard.face(0, 0, 1, 2, 11);
            yard.put(0, 0, 0, 0, 1);
            yard.keep(0, 0);
            for (int t = 0; t < 24; t++) {
                yard.back(0, 0);
                yard.back(0, 1);
                yard.turnBox(0, s);
                yard.turnBox(0, t);
                yard.turnBox(1, yard.product(t, s));
                CHECK.due("24: first " + s + ", then " + t, yard.differs(0, 1), 0);
            }
        }
    }

    private static void boxesThatDoNotGoToThemselves() {
        StackYard yard = all();
        int[][] boxes = {{1, 2, 2}, {2, 1, 2}, {2, 2, 1}, {1, 2, 3}, {2, 2, 2}};
        for (int[] b : boxes) {
            yard.box(Build.box(3, 2 + b[0], 3, 2 + b[1], 3, 2 + b[2]));
            for (int t = 0; t < 24; t++) {
                boolean goes = true;
                for (int k = 0; k < 3; k++) {
                    goes &= b[k] == b[ORDERS[t / 4].charAt(k) - '0'];
                }
                CHECK.due("24: " + b[0] + b[1] + b[2] + " by " + t, yard.turnBox(0, t), goes ? 0 : -1);
            }
        }
        yard.box(Build.box(0, 1, 0, 1, 0, 1));
        yard.put(0, 0, 0, 0, 1);
        for (int wrong : NO_TURN) {
            CHECK.due("24: no such turn", yard.turnBox(0, wrong), -1);
        }
        for (int wrong : NO_YARD) {
            CHECK.due("24: no such yard", yard.turnBox(wrong, 0), -1);
        }
        CHECK.due("24: a missing yard", yard.turnBox(1, 0), -1);
        yard.row(0, 1, 1, 1);
        for (int t = 0; t < 24; t++) {
            CHECK.due("24: a cell is not there, turn " + t, yard.turnBox(0, t), -1);
        }
        CHECK.due("24: nothing is done", yard.at(0, 0, 0, 0), 1);
        yard.row(0, 0, 0, 0);
        yard.box(1);
        CHECK.due("24: the first cell is not there", yard.turnBox(0, 0), -1);
        yard.box(9999991);
        CHECK.due("24: the last cell", yard.turnBox(0, 23), 0);
        yard.row(0, 9, 9, 9);
        CHECK.due("24: the last cell is not there", yard.turnBox(0, 23), -1);
    }

    private static void turnsChangeOnlyWhatDiffers() {
        StackYard yard = Build.plain(2, 2, 2);
        yard.box(Build.box(0, 1, 0, 1, 0, 1));
        yard.fill(0, 1, 7);
        yard.keep(0, 0);
        CHECK.due("24: turn 0", yard.turnBox(0, 0), 8);
        CHECK.made("24: turn 0 changes nothing", yard, 2, 4, 2, 4);
        yard.fill(0, 0, 0);
        yard.keep(0, 0);
        CHECK.due("24: all open", yard.turnBox(0, 13), 0);
        CHECK.made("24: open cells for open ones", yard, 4, 8, 2, 4);
        yard.put(0, 0, 0, 0, 1);
        yard.put(0, 1, 1, 0, 1);
        yard.face(0, 1, 1, 0, 3);
        yard.keep(0, 0);
        // turn 3 sends each of the two to the other's cell: the first becomes what the second was
        CHECK.due("24: turn 3", yard.turnBox(0, 3), 2);
        CHECK.due("24: product(3, 0)", yard.turnAt(0, 1, 1, 0), 3);
        CHECK.due("24: product(3, 3)", yard.turnAt(0, 0, 0, 0), 0);
        CHECK.made("24: neither cell is changed", yard, 6, 10, 2, 4);
    }

    private static void cuts() {
        StackYard yard = Build.plain(3, 3, 3);
        yard.fill(0, 1, 0);
        CHECK.due("25: above all", yard.cut(0, 1, 1, 1, 8), 0);
        CHECK.due("25: the last corner, 15 above 14", yard.cut(0, 1, 1, 1, 7), 1);
        CHECK.due("25: it is open", yard.at(0, 2, 2, 2), 0);
        CHECK.due("25: by z alone, 5 above 4", yard.cut(0, 1, 0, 0, 2), 8);
        CHECK.due("25: by x alone", yard.cut(0, 0, 1, 0, 2), 6);
        CHECK.due("25: by w alone", yard.cut(0, 0, 0, 1, 2), 4);
        CHECK.due("25: eight are left", yard.count(0, 1), 8);
        CHECK.due("25: 0 above 0", yard.cut(0, 0, 0, 0, 0), 0);
        yard.box(Build.box(1, 1, 0, 9, 0, 9));
        yard.keep(0, 0);
        CHECK.due("25: in a box", yard.cut(0, -1, -1, -1, -3), 1);
        CHECK.due("25: the one of -5 above -6", yard.at(0, 1, 0, 0), 0);
        CHECK.made("25: one row anew", yard, 4, 10, 4, 10);
        CHECK.due("25: 0 above -2", yard.cut(0, 0, 0, 0, -1), 3);
        CHECK.due("25: a missing yard", yard.cut(1, 0, 0, 0, -1), 0);
        for (int wrong : NO_YARD) {
            CHECK.due("25: no such yard", yard.cut(wrong, 0, 0, 0, -1), -1);
        }
        int most = Integer.MAX_VALUE;
        int least = Integer.MIN_VALUE;
        StackYard far = all();
        far.fill(0, 1, 0);
        CHECK.due("25: greatest, least d", far.cut(0, least, least, least, most), 0);
        CHECK.due("25: 2 d least", far.cut(0, -1, 0, 0, least), 1000);
        far.fill(0, 1, 0);
        CHECK.due("25: 2 d greatest, 1 most not above 2 most", far.cut(0, most, 0, 0, most), 900);
        far.fill(0, 1, 0);
        CHECK.due("25: all greatest, 3 most above", far.cut(0, most, most, most, most), 1000);
        far.fill(0, 1, 0);
        CHECK.due("25: all least, -3 least below", far.cut(0, least, least, least, least), 0);
        CHECK.due("25: one least, the first equal to it is not above", far.cut(0, least, 0, 0, least), 100);
        far.fill(0, 1, 0);
        CHECK.due("25: two great ones apart", far.cut(0, most, -most, 0, 0), 450);
    }
}
