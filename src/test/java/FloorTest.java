/** Promises 4, 6 to 11, 14 and 15: FLOORS and what is reckoned of them, against a plain table of ROWS. */
final class FloorTest {
    private static final int RANGE = MarbleFloor.RANGE;

    public static void main(String[] args) {
        told();
        ranges();
        rolledAndChained();
        Check check = new Check(11);
        for (int n = 0; n < 300; n++) {
            against(check);
        }
        bigOrder();
        Check.finish("FloorTest");
    }

    private static void told() {
        MarbleFloor x = new MarbleFloor();
        Check.due("floor", Check.floor(x, 2, "lanes4;turn3if0if2;\n swap 3  1;swap 0 2 if 3 if 1;turn 0 ;"), 4);
        Check.dueText("floor 2", Check.show(x, 2), "lanes 4; turn 3 if 0 if 2; swap 3 1; swap 0 2 if 1 if 3; turn 0;");
        Check.due("second of a turn", x.step(2, 0, 3), -1);
        Check.due("lanes whatever i", x.step(2, -7, 1), 4);
        Check.due("lanes whatever i", x.step(2, 40, 1), 4);
        Check.due("other what", x.step(2, 0, 5), -1);
        Check.due("other what", x.step(2, 0, -1), -1);
        Check.due("no step -1", x.step(2, -1, 0), -1);
        Check.due("no step 4", x.step(2, 4, 4), -1);
        Check.due("no floor", x.step(6, 0, 1), -1);
        Check.due("no floor", x.step(-1, 0, 1), -1);
        Check.due("a fault", Check.floor(x, 2, "lanes 3; turn 1; turn 3;"), -1);
        Check.dueText("it stays", Check.show(x, 2), "lanes 4; turn 3 if 0 if 2; swap 3 1; swap 0 2 if 1 if 3; turn 0;");
        Check.due("no steps", Check.floor(x, 2, "lanes 0008 ; "), 0);
        Check.dueText("floor 2", Check.show(x, 2), "lanes 8;");
    }

    private static void ranges() {
        MarbleFloor x = new MarbleFloor();
        int[] bad = {-1, 6, Integer.MIN_VALUE, Integer.MAX_VALUE};
        for (int f : bad) {
            Check.due("floor", x.floor(f), RANGE);
            Check.due("out", x.out(f, 0, false), RANGE);
            Check.due("odd", x.odd(f), RANGE);
            Check.due("cycle", x.cycle(f, 0), RANGE);
            Check.due("order", x.order(f), RANGE);
            Check.due("apart", x.apart(f, 0), RANGE);
            Check.due("apart", x.apart(0, f), RANGE);
            Check.due("lay", x.lay(f, 0), RANGE);
            Check.due("lay", x.lay(0, f), RANGE);
            Check.due("roll", x.roll(f, 1, 0), RANGE);
            Check.due("roll", x.roll(0, 1, f), RANGE);
            Check.due("chain", x.chain(f, 0, 0), RANGE);
            Check.due("chain", x.chain(0, f, 0), RANGE);
            Check.due("chain", x.chain(0, 0, f), RANGE);
            Check.due("least", x.least(f, 0, 0), RANGE);
            Check.due("least", x.least(0, 0, f), RANGE);
            Check.due("watch", x.watch(f), RANGE);
        }
        Check.floor(x, 0, "lanes 5;");
        int[] rows = {-1, 32, Integer.MIN_VALUE, Integer.MAX_VALUE};
        for (int row : rows) {
            Check.due("out", x.out(0, row, true), RANGE);
            Check.due("cycle", x.cycle(0, row), RANGE);
        }
        Check.due("out", x.out(0, 31, true), 31);
        Check.due("cycle", x.cycle(0, 31), 1);
        Check.due("apart, unlike lanes", x.apart(0, 1), MarbleFloor.STATE);
    }

    private static void rolledAndChained() {
        MarbleFloor x = new MarbleFloor();
        Check.floor(x, 0, "lanes 3; turn 0; swap 2 1 if 0; turn 1 if 2;");
        Check.due("roll", x.roll(0, 5, 0), 8);
        Check.dueText("rolled onto itself", Check.show(x, 0),
            "lanes 5; turn 0; swap 2 1 if 0; turn 1 if 2; turn 3 if 0; turn 4 if 2; turn 1 if 2; swap 2 1 if 0; turn 0;");
        Check.due("roll beyond 8 lanes", x.roll(0, 15, 1), MarbleFloor.FULL);
        Check.dueText("nothing changed", Check.show(x, 1), "lanes 1;");
        Check.due("roll to 8 lanes", x.roll(0, 7, 1), 19);
        Check.due("lanes", x.step(1, 0, 1), 8);
        Check.due("roll, a lane that isn't", x.roll(0, 33, 2), RANGE);
        Check.due("roll, below 0", x.roll(0, -1, 2), RANGE);
        Check.due("roll, none", x.roll(0, 0, 2), RANGE);
        Check.floor(x, 0, "lanes 2;" + "turn 0;".repeat(19));
        Check.due("roll, 40 steps", x.roll(0, 3, 1), 40);
        Check.floor(x, 0, "lanes 2;" + "turn 0;".repeat(20));
        Check.due("roll, 41 steps", x.roll(0, 1, 1), MarbleFloor.FULL);
        Check.due("nothing changed", x.step(1, 0, 1), 4);
        Check.due("chain, 40 steps", x.chain(0, 0, 2), 40);
        Check.floor(x, 3, "lanes 6; swap 5 4;");
        Check.due("chain, 41 steps", x.chain(2, 3, 2), MarbleFloor.FULL);
        Check.due("nothing changed", x.step(2, 0, 1), 2);
        Check.due("chain, wider behind", x.chain(0, 3, 3), 21);
        Check.due("lanes", x.step(3, 0, 1), 6);
        Check.due("the last", x.step(3, 20, 2), 5);
        Check.floor(x, 4, "lanes 1; turn 0;");
        Check.due("chain, narrower behind", x.chain(3, 4, 4), 22);
        Check.due("lanes", x.step(4, 0, 1), 6);
        Check.due("the last", x.step(4, 21, 0), 0);
    }

    private static void against(Check check) {
        MarbleFloor x = new MarbleFloor();
        int lanes = 1 + check.below(8);
        String text = check.floorText(lanes, check.below(25));
        String other = check.floorText(lanes, check.below(4));
        Check.floor(x, 1, text);
        Check.floor(x, 2, check.coin() ? text : other);
        int[] table = table(x, 1, lanes);
        int[] second = table(x, 2, lanes);
        int unlike = -1;
        for (int row = table.length - 1; row >= 0; row--) {
            Check.due("out of " + text, x.out(1, row, false), table[row]);
            Check.due("back of " + text, x.out(1, table[row], true), row);
            if (table[row] != second[row]) {
                unlike = row;
            }
        }
        Check.due("apart", x.apart(1, 2), unlike);
        long order = 1;
        int odd = 0;
        for (int a = 0; a < table.length; a++) {
            int runs = 1;
            for (int row = table[a]; row != a; row = table[row]) {
                runs++;
            }
            Check.due("cycle", x.cycle(1, a), runs);
            long sum = order;
            while (sum % runs != 0) {
                sum += order;
            }
            order = sum;
            for (int b = 0; b < a; b++) {
                odd ^= table[b] > table[a] ? 1 : 0;
            }
        }
        Check.due("order", x.order(1), order);
        Check.due("odd", x.odd(1), odd);
    }

    /** The TABLE, lane by lane over arrays of balls. */
    static int[] table(MarbleFloor x, int f, int lanes) {
        int[] table = new int[1 << lanes];
        for (int row = 0; row < table.length; row++) {
            boolean[] balls = new boolean[lanes];
            for (int lane = 0; lane < lanes; lane++) {
                balls[lane] = (row >> lane & 1) != 0;
            }
            for (int i = 0; x.step(f, i, 0) != -1; i++) {
                pass(x, f, i, balls);
            }
            for (int lane = 0; lane < lanes; lane++) {
                table[row] += balls[lane] ? 1 << lane : 0;
            }
        }
        return table;
    }

    static void pass(MarbleFloor x, int f, int i, boolean[] balls) {
        for (int lane = 0; lane < balls.length; lane++) {
            if ((x.step(f, i, 4) >> lane & 1) != 0 && !balls[lane]) {
                return;
            }
        }
        int first = x.step(f, i, 2);
        if (x.step(f, i, 0) == 0) {
            balls[first] = !balls[first];
            return;
        }
        int second = x.step(f, i, 3);
        boolean was = balls[first];
        balls[first] = balls[second];
        balls[second] = was;
    }

    private static void bigOrder() {
        MarbleFloor x = new MarbleFloor();
        StringBuilder count = new StringBuilder("lanes 8;");
        for (int lane = 7; lane >= 0; lane--) {
            count.append("turn ").append(lane);
            for (int below = 0; below < lane; below++) {
                count.append(" if ").append(below);
            }
            count.append(';');
        }
        Check.due("a counter of 8 lanes", Check.floor(x, 0, count.toString()), 8);
        Check.due("order", x.order(0), 256);
        Check.due("cycle", x.cycle(0, 77), 256);
        Check.due("out", x.out(0, 255, false), 0);
        Check.due("odd", x.odd(0), 1);
    }
}
