/** The edges that the document names of FLOORS: their STEPS, TABLES, LEAST, LAID, ROLLED and CHAINED ones. */
final class FloorEdges {
    private static final int NONE = MarbleFloor.NONE;
    private static final int RANGE = MarbleFloor.RANGE;
    private static final int FULL = MarbleFloor.FULL;
    private static final int STATE = MarbleFloor.STATE;
    private static final int[] NO_FLOORS = {-1, 6, 7, Integer.MIN_VALUE, Integer.MAX_VALUE};
    // LAID they have just so many turns.
    private static final String LAID_39 = "lanes 5; swap 4 3 if 1; swap 1 0; swap 3 0; swap 2 1;";
    private static final String LAID_40 = "lanes 5; swap 0 4; swap 3 2; swap 0 3; turn 0 if 1;";
    private static final String LAID_41 = "lanes 5; turn 2 if 1; swap 1 3 if 0; swap 0 4 if 2;";
    private static final String LONG_ORDER = "lanes 8; swap 6 3 if 1 if 2 if 4; swap 1 7; turn 7 if 3; turn 7 if 0 if 6;"
        + " turn 6 if 2; turn 6 if 4; swap 3 7 if 5; swap 2 6 if 7; turn 3 if 0 if 1 if 4 if 6; turn 0 if 6;";

    private FloorEdges() {
    }

    static void all() {
        rows();
        stepCall();
        outCall();
        oddCall();
        cycleAndOrder();
        apartCall();
        leastTerms();
        leastCall();
        laid();
        rolled();
        chained();
    }

    private static MarbleFloor with(String text) {
        MarbleFloor x = new MarbleFloor();
        Check.due(text, Check.floor(x, 0, text) < 0 ? 0 : 1, 1);
        return x;
    }

    private static void rows() {
        Doc.terms("II. A ROW: which lanes hold a ball, as bits.");
        for (int lane = 0; lane < 8; lane++) {
            MarbleFloor x = with("lanes 8; turn " + lane + ";");
            Check.due("a ball on lane " + lane, x.out(0, 0, false), 1 << lane);
        }
        Doc.terms("turn: the lane is turned over (a ball comes, or goes), if all lanes behind if hold a ball;");
        MarbleFloor x = with("lanes 3; turn 0 if 1 if 2;");
        int[] turned = {0, 1, 2, 3, 4, 5, 7, 6};
        MarbleFloor free = with("lanes 3; turn 0;");
        for (int row = 0; row < 8; row++) {
            Check.due("out of " + row, x.out(0, row, false), turned[row]);
            Check.due("out of " + row, free.out(0, row, false), row ^ 1);
        }
        Doc.terms("swap: two lanes change what they hold, likewise.");
        x = with("lanes 3; swap 0 1 if 2;");
        free = with("lanes 3; swap 0 1;");
        int[] swapped = {0, 1, 2, 3, 4, 6, 5, 7};
        int[] freely = {0, 2, 1, 3, 4, 6, 5, 7};
        for (int row = 0; row < 8; row++) {
            Check.due("out of " + row, x.out(0, row, false), swapped[row]);
            Check.due("out of " + row, free.out(0, row, false), freely[row]);
        }
        Doc.terms("A FLOOR does its STEPS one behind the other (BACK: the last first).");
        x = with("lanes 2; turn 0; turn 1 if 0;");
        Check.due("forth", x.out(0, 0, false), 3);
        Check.due("back", x.out(0, 3, true), 0);
        Check.due("back", x.out(0, 0, true), 1);
        Doc.terms("Its TABLE: to each ROW the ROW that comes out.");
        x = with("lanes 8; turn 7 if 0 if 1 if 2 if 3 if 4 if 5 if 6;");
        for (int row = 0; row < 256; row++) {
            Check.due("out of " + row, x.out(0, row, false), row == 127 ? 255 : row == 255 ? 127 : row);
        }
    }

    private static void stepCall() {
        Doc.promise(6, "Of STEP i of a FLOOR, what 0: 0 turn, 1 swap, 2 the lane (of a swap the first told), 3 the second (NONE),"
            + " 4 the lanes behind if, as bits;");
        MarbleFloor x = with("lanes 8; turn 7; turn 0 if 7 if 1; swap 6 2; swap 0 7 if 6 if 1 if 3;");
        int[][] due = {{0, 7, NONE, 0}, {0, 0, NONE, 130}, {1, 6, 2, 0}, {1, 0, 7, 74}};
        for (int i = 0; i < 4; i++) {
            Check.due("step(0, i, 0)", x.step(0, i, 0), due[i][0]);
            for (int what = 2; what <= 4; what++) {
                Check.due("step(0, " + i + ", " + what + ")", x.step(0, i, what), due[i][what - 1]);
            }
        }
        Doc.promise(6, "what 1: lanes of the FLOOR (whatever i).");
        int[] any = {0, 3, 4, 39, 40, 41, -1, Integer.MIN_VALUE, Integer.MAX_VALUE};
        for (int i : any) {
            Check.due("step(0, " + i + ", 1)", x.step(0, i, 1), 8);
            Check.due("step(1, " + i + ", 1)", x.step(1, i, 1), 1);
        }
        Doc.promise(6, "NONE when there is none such.");
        int[] whats = {0, 2, 3, 4};
        for (int what : whats) {
            Check.due("step(0, 4, what)", x.step(0, 4, what), NONE);
            Check.due("step(0, -1, what)", x.step(0, -1, what), NONE);
            Check.due("step(0, least, what)", x.step(0, Integer.MIN_VALUE, what), NONE);
            Check.due("step(0, greatest, what)", x.step(0, Integer.MAX_VALUE, what), NONE);
            Check.due("step(1, 0, what)", x.step(1, 0, what), NONE);
        }
        int[] others = {-1, 5, 6, Integer.MIN_VALUE, Integer.MAX_VALUE};
        for (int what : others) {
            Check.due("step(0, 0, " + what + ")", x.step(0, 0, what), NONE);
        }
        for (int f : NO_FLOORS) {
            for (int what = 0; what <= 4; what++) {
                Check.due("step(" + f + ", 0, " + what + ")", x.step(f, 0, what), NONE);
            }
        }
        Check.floor(x, 0, "lanes 2;" + "turn 0;".repeat(39) + "turn 1;");
        Check.due("the 40th", x.step(0, 39, 2), 1);
        Check.due("behind it", x.step(0, 40, 2), NONE);
        Check.floor(x, 0, "lanes 2; turn 0;");
        Check.due("one that was there", x.step(0, 1, 0), NONE);
    }

    private static void outCall() {
        Doc.promise(7, "What comes out of a FLOOR for a ROW, forth or BACK;");
        MarbleFloor x = with("lanes 3; turn 0; turn 1 if 0; turn 2 if 0 if 1;");
        int[] forth = {7, 0, 1, 2, 3, 4, 5, 6};
        for (int row = 0; row < 8; row++) {
            Check.due("out(0, " + row + ", false)", x.out(0, row, false), forth[row]);
            Check.due("out(0, " + forth[row] + ", true)", x.out(0, forth[row], true), row);
        }
        Doc.promise(7, "RANGE: no such FLOOR, ROW.");
        for (int lanes = 1; lanes <= 8; lanes++) {
            Check.floor(x, 5, "lanes " + lanes + "; turn 0;");
            int last = (1 << lanes) - 1;
            int[] none = {-1, last + 1, last + 2, Integer.MIN_VALUE, Integer.MAX_VALUE};
            for (int row : none) {
                Check.due("out(5, " + row + ", false)", x.out(5, row, false), RANGE);
                Check.due("out(5, " + row + ", true)", x.out(5, row, true), RANGE);
                Check.due("cycle(5, " + row + ")", x.cycle(5, row), RANGE);
            }
            Check.due("the last ROW", x.out(5, last, false), last - 1);
            Check.due("the last ROW, BACK", x.out(5, last, true), last - 1);
            Check.due("the first ROW", x.out(5, 0, true), 1);
            Check.due("cycle of the last ROW", x.cycle(5, last), 2);
        }
        for (int f : NO_FLOORS) {
            Check.due("out(" + f + ", 0, false)", x.out(f, 0, false), RANGE);
            Check.due("out(" + f + ", 0, true)", x.out(f, 0, true), RANGE);
        }
    }

    private static int odd(String text) {
        return with(text).odd(0);
    }

    private static void oddCall() {
        Doc.terms("ODD: it is made of an odd number of exchanges of two ROWS.");
        Check.due("no exchange", odd("lanes 1;"), 0);
        Check.due("one exchange", odd("lanes 1; turn 0;"), 1);
        Check.due("two of it", odd("lanes 1; turn 0; turn 0;"), 0);
        Check.due("two exchanges", odd("lanes 2; turn 0;"), 0);
        Check.due("one exchange", odd("lanes 2; turn 0 if 1;"), 1);
        Check.due("one exchange", odd("lanes 2; swap 0 1;"), 1);
        Check.due("two exchanges", odd("lanes 3; swap 0 1;"), 0);
        Check.due("one exchange", odd("lanes 3; swap 0 1 if 2;"), 1);
        Check.due("one exchange", odd("lanes 8; turn 0 if 1 if 2 if 3 if 4 if 5 if 6 if 7;"), 1);
        Check.due("two exchanges", odd("lanes 8; turn 0 if 1 if 2 if 3 if 4 if 5 if 6;"), 0);
        Check.due("one exchange", odd("lanes 8; swap 0 1 if 2 if 3 if 4 if 5 if 6 if 7;"), 1);
        Check.due("a cycle of three", odd("lanes 2; turn 0 if 1; turn 1 if 0;"), 0);
        Doc.promise(8, "1 if a FLOOR is ODD, else 0;");
        MarbleFloor x = with("lanes 1; turn 0;");
        Check.due("odd(0)", x.odd(0), 1);
        Check.due("odd(5)", x.odd(5), 0);
        Doc.promise(8, "RANGE.");
        for (int f : NO_FLOORS) {
            Check.due("odd(" + f + ")", x.odd(f), RANGE);
        }
    }

    /** A FLOOR that tells each ROW's follower, by so many low lanes. */
    private static String counter(int lanes, int low) {
        StringBuilder text = new StringBuilder("lanes " + lanes + ";");
        for (int lane = low - 1; lane >= 0; lane--) {
            text.append("turn ").append(lane);
            for (int below = 0; below < lane; below++) {
                text.append(" if ").append(below);
            }
            text.append(';');
        }
        return text.toString();
    }

    private static void cycleAndOrder() {
        Doc.terms("CYCLE of a ROW: how many times the FLOOR must run till the ROW is there again;");
        Doc.promise(9, "CYCLE of a ROW;");
        for (int low = 0; low <= 8; low++) {
            MarbleFloor x = with(counter(8, low));
            Check.due("the first ROW's", x.cycle(0, 0), 1 << low);
            Check.due("the last ROW's", x.cycle(0, 255), 1 << low);
            Check.due("ORDER", x.order(0), 1 << low);
        }
        MarbleFloor x = with("lanes 2; turn 0 if 1; turn 1 if 0;");
        int[] cycles = {1, 3, 3, 3};
        for (int row = 0; row < 4; row++) {
            Check.due("cycle(0, " + row + ")", x.cycle(0, row), cycles[row]);
        }
        Doc.promise(9, "RANGE.");
        Check.due("cycle(0, 3)", x.cycle(0, 3), 3);
        Check.due("cycle(0, 4)", x.cycle(0, 4), RANGE);
        Check.due("cycle(0, -1)", x.cycle(0, -1), RANGE);
        for (int f : NO_FLOORS) {
            Check.due("cycle(" + f + ", 0)", x.cycle(f, 0), RANGE);
        }
        Doc.terms("ORDER: till all are at once.");
        Doc.promise(10, "ORDER;");
        Check.due("order of one lane", x.order(5), 1);
        Check.due("order", x.order(0), 3);
        x = with("lanes 3; turn 0 if 1; turn 1 if 0; turn 2;");
        Check.due("cycles of 2 and 6", x.order(0), 6);
        x = with(LONG_ORDER);
        Check.due("an order that is no int", x.order(0), 524982141684L);
        long shared = 1;
        for (int row = 0; row < 256; row++) {
            Check.due("order is a multiple of each CYCLE", x.order(0) % x.cycle(0, row), 0);
            shared = Math.max(shared, x.cycle(0, row));
        }
        Check.due("CYCLES are shorter", shared < 256 ? 1 : 0, 1);
        Doc.promise(10, "RANGE.");
        for (int f : NO_FLOORS) {
            Check.due("order(" + f + ")", x.order(f), RANGE);
        }
    }

    private static void apartCall() {
        Doc.promise(11, "The least ROW for which two FLOORS tell unlike ROWS;");
        MarbleFloor x = with("lanes 8;");
        Check.floor(x, 1, "lanes 8; turn 0;");
        Check.due("the first ROW", x.apart(0, 1), 0);
        Check.floor(x, 1, "lanes 8; turn 0 if 1 if 2 if 3 if 4 if 5 if 6 if 7;");
        Check.due("the last two ROWS", x.apart(0, 1), 254);
        Check.floor(x, 2, "lanes 8; turn 0 if 1 if 2 if 3 if 4 if 5 if 6 if 7; turn 7 if 0 if 1 if 2 if 3 if 4 if 5 if 6;");
        Check.due("others by both", x.apart(1, 2), 127);
        Doc.promise(11, "NONE: for none;");
        Check.due("with itself", x.apart(1, 1), NONE);
        Check.floor(x, 2, "lanes 8; turn 3; turn 3; swap 1 7; swap 7 1;");
        Check.due("other STEPS, one TABLE", x.apart(0, 2), NONE);
        Doc.promise(11, "RANGE;");
        for (int f : NO_FLOORS) {
            Check.due("apart(" + f + ", 0)", x.apart(f, 0), RANGE);
            Check.due("apart(0, " + f + ")", x.apart(0, f), RANGE);
            Check.due("apart(" + f + ", " + f + ")", x.apart(f, f), RANGE);
        }
        Doc.promise(11, "STATE: unlike lanes.");
        Check.floor(x, 3, "lanes 7;");
        Check.due("8 and 7 lanes", x.apart(0, 3), STATE);
        Check.due("7 and 8 lanes", x.apart(3, 0), STATE);
        Check.floor(x, 3, "lanes 8;");
        Check.due("8 and 8 lanes", x.apart(0, 3), NONE);
    }

    /** LEAST of a text by kinds is so, or there is none. */
    private static void least(String text, int kinds, String want) {
        MarbleFloor x = with(text);
        int told = x.least(0, kinds, 1);
        String call = "least of " + text + " by " + kinds;
        Check.due(call, told, want.isEmpty() ? NONE : want.split(";").length - 1);
        Check.dueText(call, Check.show(x, 1), want.isEmpty() ? "lanes 1;" : want);
        Check.dueText("it stays", Check.show(x, 0), text);
    }

    private static void leastTerms() {
        Doc.terms("LEAST, of a FLOOR with 3 lanes: the fewest STEPS that have its TABLE, of the kinds that a set tells"
            + " (bit 0: turn without if, 1: turn with one, 2: turn with two, 3: swap without if, 4: swap with one);");
        String[] own = {"lanes 3; turn 2;", "lanes 3; turn 2 if 0;", "lanes 3; turn 2 if 0 if 1;", "lanes 3; swap 0 2;",
            "lanes 3; swap 0 2 if 1;"};
        for (int bit = 0; bit < 5; bit++) {
            least(own[bit], 1 << bit, own[bit]);
            for (int other = 0; other < 5; other++) {
                // Of one other kind alone a swap is three turns that have one if more; nothing else can be had.
                boolean bySwap = bit == 3 && other == 1 || bit == 4 && other == 2;
                if (bySwap) {
                    least(own[bit], 1 << other, bit == 3 ? "lanes 3; turn 0 if 2; turn 2 if 0; turn 0 if 2;"
                        : "lanes 3; turn 0 if 1 if 2; turn 2 if 0 if 1; turn 0 if 1 if 2;");
                } else if (other != bit) {
                    least(own[bit], 1 << other, "");
                }
            }
            least(own[bit], 31, own[bit]);
            least(own[bit], 0, "");
        }
        least("lanes 3;", 0, "lanes 3;");
        least("lanes 3;", 31, "lanes 3;");
        least("lanes 3; turn 0; turn 0;", 0, "lanes 3;");
        least("lanes 3; turn 0; turn 1 if 0; turn 2;", 1, "");
        least("lanes 3; swap 0 1 if 2;", 3, "");
        least("lanes 3; swap 0 1 if 2;", 6, "lanes 3; turn 0 if 1; turn 1 if 0 if 2; turn 0 if 1;");
        Doc.terms("of rows with so many STEPS the least, STEP by STEP, by these numbers: turns ahead of swaps;");
        least("lanes 3; swap 0 1; turn 2;", 31, "lanes 3; turn 2; swap 0 1;");
        least("lanes 3; swap 0 1; turn 0;", 31, "lanes 3; turn 1; swap 0 1;");
        least("lanes 3; swap 1 2 if 0; turn 1 if 2;", 31, "lanes 3; turn 1 if 2; turn 2 if 0 if 1;");
        least("lanes 3; swap 1 2 if 0; turn 1 if 2;", 18, "lanes 3; swap 1 2 if 0; turn 1 if 2;");
        Doc.terms("8 times the lane and the lanes behind if as bits;");
        least("lanes 3; turn 2; turn 1; turn 0;", 31, "lanes 3; turn 0; turn 1; turn 2;");
        least("lanes 3; turn 0 if 2; turn 0 if 1; turn 0;", 31, "lanes 3; turn 0; turn 0 if 1; turn 0 if 2;");
        least("lanes 3; turn 0 if 1 if 2; turn 0 if 2;", 31, "lanes 3; turn 0 if 2; turn 0 if 1 if 2;");
        Doc.terms("swaps: 32 times the lesser lane, 8 times the other one, and those bits.");
        least("lanes 3; swap 1 2; swap 0 1;", 24, "lanes 3; swap 0 1; swap 0 2;");
        least("lanes 3; swap 0 2; swap 0 1;", 24, "lanes 3; swap 0 1; swap 1 2;");
        least("lanes 3; swap 0 2; swap 0 1;", 8, "lanes 3; swap 0 1; swap 1 2;");
        least("lanes 3; swap 0 1 if 2; swap 0 1;", 24, "lanes 3; swap 0 1; swap 0 1 if 2;");
        MarbleFloor x = with("lanes 3; swap 2 0;");
        x.least(0, 8, 1);
        Check.due("the lesser lane", x.step(1, 0, 2), 0);
        Check.due("the other one", x.step(1, 0, 3), 2);
    }

    private static void leastCall() {
        Doc.promise(12, "LEAST by kinds (0 .. 31): how many STEPS;");
        MarbleFloor x = with("lanes 3;");
        for (int kinds = 0; kinds <= 31; kinds++) {
            Check.due("nothing to do", x.least(0, kinds, 1), 0);
        }
        Doc.promise(12, "NONE: there is no such row;");
        Check.floor(x, 0, "lanes 3; turn 0;");
        for (int kinds = 0; kinds <= 31; kinds++) {
            int told = x.least(0, kinds, 1);
            // No STEP but a turn without if brings a ball onto empty lanes.
            Check.due("a ball out of none by " + kinds, told, kinds % 2 == 1 ? 1 : NONE);
        }
        Doc.promise(12, "RANGE;");
        int[] noKinds = {-1, 32, 33, Integer.MIN_VALUE, Integer.MAX_VALUE};
        for (int kinds : noKinds) {
            Check.due("least(0, " + kinds + ", 1)", x.least(0, kinds, 1), RANGE);
            Check.due("least(2, " + kinds + ", 1)", x.least(2, kinds, 1), RANGE);
        }
        for (int f : NO_FLOORS) {
            Check.due("least(" + f + ", 31, 1)", x.least(f, 31, 1), RANGE);
            Check.due("least(0, 31, " + f + ")", x.least(0, 31, f), RANGE);
            Check.due("least(2, 31, " + f + ")", x.least(2, 31, f), RANGE);
            Check.due("least(0, 0, " + f + ")", x.least(0, 0, f), RANGE);
        }
        Check.due("least(0, 31, 5)", x.least(0, 31, 5), 1);
        Doc.promise(12, "STATE: it has not 3 lanes.");
        for (int lanes = 1; lanes <= 8; lanes++) {
            Check.floor(x, 4, "lanes " + lanes + ";");
            Check.due("least of " + lanes + " lanes", x.least(4, 31, 3), lanes == 3 ? 0 : STATE);
            Check.due("by no kinds", x.least(4, 0, 3), lanes == 3 ? 0 : STATE);
        }
        Doc.promise(12, "FLOOR to is that row then (not if NONE).");
        Check.floor(x, 0, "lanes 3; swap 2 1; swap 1 2; turn 2 if 1; turn 0 if 2;");
        Check.floor(x, 1, "lanes 7; turn 6;");
        Check.due("none", x.least(0, 8, 1), NONE);
        Check.dueText("it stays", Check.show(x, 1), "lanes 7; turn 6;");
        Check.due("one", x.least(0, 31, 1), 2);
        Check.dueText("it is that row", Check.show(x, 1), "lanes 3; turn 2 if 1; turn 0 if 2;");
        Check.dueText("the other stays", Check.show(x, 0), "lanes 3; swap 2 1; swap 1 2; turn 2 if 1; turn 0 if 2;");
        Check.due("onto itself, none", x.least(0, 8, 0), NONE);
        Check.dueText("it stays", Check.show(x, 0), "lanes 3; swap 2 1; swap 1 2; turn 2 if 1; turn 0 if 2;");
        Check.due("onto itself", x.least(0, 31, 0), 2);
        Check.dueText("it is that row", Check.show(x, 0), "lanes 3; turn 2 if 1; turn 0 if 2;");
    }

    private static void lay(String text, String want) {
        MarbleFloor x = with(text);
        Check.due("lay of " + text, x.lay(0, 1), want.split(";").length - 1);
        Check.dueText("LAID of " + text, Check.show(x, 1), want);
    }

    private static void laid() {
        Doc.terms("LAID, of any FLOOR: turns that have its TABLE, made so: for each ROW v from 0 on, let w be what comes out of v"
            + " (with the turns made so far done behind):");
        lay("lanes 1;", "lanes 1;");
        lay("lanes 8;", "lanes 8;");
        lay("lanes 1; turn 0;", "lanes 1; turn 0;");
        lay("lanes 8; turn 7;", "lanes 8; turn 7;");
        Doc.terms("first for each lane, from 0 on, that v has and w hasn't: a turn of it, if by all lanes that w has then;");
        lay("lanes 2; swap 0 1;", "lanes 2; turn 0 if 1; turn 1 if 0; turn 0 if 1;");
        lay("lanes 2; turn 0 if 1;", "lanes 2; turn 0 if 1;");
        Doc.terms("then for each lane, from 0 on, that w has and v hasn't: a turn of it, if by all other lanes that w has then.");
        // v = 0 has w = 3: turn 0 if 1, turn 1; then v = 2 has w = 3: turn 0 if 1.
        lay("lanes 2; turn 0; turn 1;", "lanes 2; turn 0 if 1; turn 1; turn 0 if 1;");
        Doc.terms("Behind all ROWS the turns undo the TABLE; LAID are they from the last to the first.");
        // v = 1 has w = 3: turn 1 if 0; then v = 2 has w = 3: turn 0 if 1.
        lay("lanes 2; turn 0 if 1; turn 1 if 0;", "lanes 2; turn 0 if 1; turn 1 if 0;");
        Doc.promise(13, "LAID: how many turns;");
        MarbleFloor x = with(LAID_39);
        Check.due("lay", x.lay(0, 1), 39);
        Check.due("one TABLE", x.apart(0, 1), NONE);
        Check.floor(x, 0, LAID_40);
        Check.due("lay", x.lay(0, 1), 40);
        Check.due("one TABLE", x.apart(0, 1), NONE);
        Check.due("the 40th turn is there", x.step(1, 39, 0), 0);
        Doc.promise(13, "RANGE;");
        for (int f : NO_FLOORS) {
            Check.due("lay(" + f + ", 0)", x.lay(f, 0), RANGE);
            Check.due("lay(0, " + f + ")", x.lay(0, f), RANGE);
        }
        Doc.promise(13, "FULL: more than 40 (nothing is changed).");
        Check.floor(x, 0, LAID_41);
        String was = Check.show(x, 1);
        Check.due("lay", x.lay(0, 1), FULL);
        Check.dueText("nothing is changed", Check.show(x, 1), was);
        Check.due("lay onto itself", x.lay(0, 0), FULL);
        Check.dueText("nothing is changed", Check.show(x, 0), LAID_41);
        Check.due("RANGE ahead of FULL", x.lay(0, 6), RANGE);
        Doc.promise(13, "FLOOR to is that row then.");
        Check.floor(x, 0, LAID_40);
        x.lay(0, 5);
        Check.due("lay onto itself", x.lay(0, 0), 40);
        Check.dueText("the same row", Check.show(x, 0), Check.show(x, 5));
        Check.due("its lanes", x.step(0, 0, 1), 5);
    }

    private static void rolled() {
        Doc.terms("ROLLED: a FLOOR with some of its lanes copied: the same STEPS; for each such lane, the least first, a turn of the"
            + " next lane beyond its lanes (from the first beyond on) if it holds a ball; then its STEPS back.");
        MarbleFloor x = with("lanes 3; turn 0; swap 1 2 if 0;");
        String head = " turn 0; swap 1 2 if 0;";
        String tail = " swap 1 2 if 0; turn 0;";
        String[] middles = {"", " turn 3 if 0;", " turn 3 if 1;", " turn 3 if 0; turn 4 if 1;", " turn 3 if 2;",
            " turn 3 if 0; turn 4 if 2;", " turn 3 if 1; turn 4 if 2;", " turn 3 if 0; turn 4 if 1; turn 5 if 2;"};
        for (int lanes = 1; lanes <= 7; lanes++) {
            int many = Integer.bitCount(lanes);
            Check.due("roll by " + lanes, x.roll(0, lanes, 1), 4 + many);
            Check.dueText("rolled", Check.show(x, 1), "lanes " + (3 + many) + ";" + head + middles[lanes] + tail);
        }
        Doc.promise(14, "FLOOR to is FLOOR f ROLLED with some lanes (bits, at least one of its lanes) copied: how many STEPS;");
        Check.due("one lane without STEPS", x.roll(5, 1, 5), 1);
        Check.dueText("rolled onto itself", Check.show(x, 5), "lanes 2; turn 1 if 0;");
        Check.due("no lane", x.roll(0, 0, 1), RANGE);
        Check.due("the last lane", x.roll(0, 4, 1), 5);
        Check.due("beyond the last lane", x.roll(0, 8, 1), RANGE);
        Check.due("all lanes", x.roll(0, 7, 1), 7);
        Doc.promise(14, "RANGE;");
        for (int f : NO_FLOORS) {
            Check.due("roll(" + f + ", 1, 0)", x.roll(f, 1, 0), RANGE);
            Check.due("roll(0, 1, " + f + ")", x.roll(0, 1, f), RANGE);
        }
        int[] none = {0, -1, 8, 256, Integer.MIN_VALUE, Integer.MAX_VALUE};
        for (int lanes : none) {
            Check.due("roll(0, " + lanes + ", 1)", x.roll(0, lanes, 1), RANGE);
        }
        Doc.promise(14, "FULL: more than 8 lanes, or 40 STEPS.");
        Check.floor(x, 0, "lanes 4; turn 3;");
        Check.due("to 8 lanes", x.roll(0, 15, 2), 6);
        Check.due("lanes", x.step(2, 0, 1), 8);
        Check.floor(x, 0, "lanes 5; turn 3;");
        Check.due("to 8 lanes", x.roll(0, 7, 3), 5);
        Check.due("to 9 lanes", x.roll(0, 15, 3), FULL);
        Check.due("nothing is changed", x.step(3, 5, 0), NONE);
        Check.floor(x, 0, "lanes 7;");
        Check.due("to 8 lanes", x.roll(0, 64, 3), 1);
        Check.due("to 9 lanes", x.roll(0, 65, 3), FULL);
        Check.floor(x, 0, "lanes 8;");
        Check.due("to 9 lanes", x.roll(0, 1, 3), FULL);
        Check.due("a lane that isn't", x.roll(0, 256, 3), RANGE);
        Check.floor(x, 0, "lanes 2;" + "turn 0;".repeat(19));
        Check.due("39 STEPS", x.roll(0, 1, 3), 39);
        Check.due("40 STEPS", x.roll(0, 3, 3), 40);
        Check.due("the 40th is there", x.step(3, 39, 0), 0);
        Check.floor(x, 0, "lanes 4;" + "turn 0;".repeat(19));
        Check.due("41 STEPS", x.roll(0, 7, 3), FULL);
        Check.due("nothing is changed", x.step(3, 0, 1), 4);
        Check.floor(x, 0, "lanes 1;" + "turn 0;".repeat(20));
        Check.due("41 STEPS onto itself", x.roll(0, 1, 0), FULL);
        Check.due("nothing is changed", x.step(0, 0, 1), 1);
        Check.due("nothing is changed", x.step(0, 20, 0), NONE);
    }

    private static void chained() {
        Doc.terms("CHAINED: the STEPS of two FLOORS one behind the other, as many lanes as the wider one has.");
        MarbleFloor x = with("lanes 3; turn 0; swap 1 2 if 0;");
        Check.floor(x, 1, "lanes 8; turn 7;");
        Check.due("chain", x.chain(0, 1, 2), 3);
        Check.dueText("chained", Check.show(x, 2), "lanes 8; turn 0; swap 1 2 if 0; turn 7;");
        Check.due("chain", x.chain(1, 0, 2), 3);
        Check.dueText("chained", Check.show(x, 2), "lanes 8; turn 7; turn 0; swap 1 2 if 0;");
        Check.due("both without STEPS", x.chain(4, 5, 2), 0);
        Check.dueText("chained", Check.show(x, 2), "lanes 1;");
        Doc.promise(15, "FLOOR to is f and g CHAINED: how many STEPS;");
        Check.due("onto the first", x.chain(0, 0, 0), 4);
        Check.dueText("chained", Check.show(x, 0), "lanes 3; turn 0; swap 1 2 if 0; turn 0; swap 1 2 if 0;");
        Check.due("onto the second", x.chain(0, 1, 1), 5);
        Check.due("lanes", x.step(1, 0, 1), 8);
        Doc.promise(15, "RANGE;");
        for (int f : NO_FLOORS) {
            Check.due("chain(" + f + ", 0, 0)", x.chain(f, 0, 0), RANGE);
            Check.due("chain(0, " + f + ", 0)", x.chain(0, f, 0), RANGE);
            Check.due("chain(0, 0, " + f + ")", x.chain(0, 0, f), RANGE);
        }
        Doc.promise(15, "FULL: more than 40.");
        for (int n = 0; n <= 40; n += 8) {
            Check.floor(x, 0, "lanes 2;" + "turn 0;".repeat(n));
            Check.floor(x, 1, "lanes 3;" + "turn 2;".repeat(40 - n));
            Check.due("39 or 40", x.chain(0, 1, 2), 40);
            Check.due("the 40th is there", x.step(2, 39, 0), 0);
            Check.floor(x, 2, "lanes 1;");
            if (n > 0) {
                Check.floor(x, 1, "lanes 3;" + "turn 2;".repeat(41 - n));
                Check.due("41", x.chain(0, 1, 2), FULL);
                Check.due("41, the other way", x.chain(1, 0, 2), FULL);
                Check.dueText("nothing is changed", Check.show(x, 2), "lanes 1;");
                Check.due("41 and no FLOOR", x.chain(0, 1, 6), RANGE);
            }
        }
        Check.floor(x, 0, "lanes 1;" + "turn 0;".repeat(40));
        Check.due("40 and none", x.chain(0, 5, 0), 40);
        Check.due("80", x.chain(0, 0, 0), FULL);
    }
}
