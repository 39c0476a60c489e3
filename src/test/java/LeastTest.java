import java.util.ArrayList;
import java.util.HashMap;
import java.util.List;
import java.util.Map;

/** Promises 12 (least) and 13 (lay), against a search through all TABLES and the document's own way of laying. */
final class LeastTest {
    public static void main(String[] args) {
        edges();
        for (int kinds = 0; kinds < 32; kinds++) {
            everyTable(kinds);
        }
        laidEdges();
        Check check = new Check(5);
        for (int n = 0; n < 400; n++) {
            laid(check);
        }
        Check.finish("LeastTest");
    }

    private static void edges() {
        MarbleFloor x = new MarbleFloor();
        Check.floor(x, 0, "lanes 3; swap 2 0; turn 1;");
        Check.floor(x, 1, "lanes 2;");
        Check.floor(x, 2, "lanes 4;");
        Check.due("kinds -1", x.least(0, -1, 1), MarbleFloor.RANGE);
        Check.due("kinds 32", x.least(0, 32, 1), MarbleFloor.RANGE);
        Check.due("2 lanes", x.least(1, 31, 1), MarbleFloor.STATE);
        Check.due("4 lanes", x.least(2, 31, 1), MarbleFloor.STATE);
        Check.due("RANGE ahead of STATE", x.least(2, 31, 6), MarbleFloor.RANGE);
        Check.due("no kinds", x.least(0, 0, 1), MarbleFloor.NONE);
        Check.dueText("nothing changed", Check.show(x, 1), "lanes 2;");
        Check.due("onto itself", x.least(0, 31, 0), 2);
        Check.dueText("turns ahead of swaps", Check.show(x, 0), "lanes 3; turn 1; swap 0 2;");
        Check.floor(x, 0, "lanes 3;");
        Check.due("nothing to do", x.least(0, 0, 1), 0);
        Check.dueText("nothing to do", Check.show(x, 1), "lanes 3;");
    }

    private record Gate(int kind, int number, boolean swap, int first, int second, int ifs) {
        int pass(int row) {
            if ((row & ifs) != ifs) {
                return row;
            }
            if (!swap) {
                return row ^ 1 << first;
            }
            int a = row >> first & 1;
            int b = row >> second & 1;
            return row & ~(1 << first | 1 << second) | b << first | a << second;
        }
    }

    private static List<Gate> gates(int kinds) {
        List<Gate> all = new ArrayList<>();
        for (int lane = 0; lane < 3; lane++) {
            for (int ifs = 0; ifs < 8; ifs++) {
                if ((ifs >> lane & 1) == 0) {
                    all.add(new Gate(Integer.bitCount(ifs), 8 * lane + ifs, false, lane, -1, ifs));
                }
            }
            for (int other = lane + 1; other < 3; other++) {
                for (int ifs = 0; ifs < 8; ifs++) {
                    if ((ifs >> lane & 1) == 0 && (ifs >> other & 1) == 0) {
                        int number = 1000 + 32 * lane + 8 * other + ifs;
                        all.add(new Gate(3 + Integer.bitCount(ifs), number, true, lane, other, ifs));
                    }
                }
            }
        }
        all.removeIf(g -> (kinds >> g.kind & 1) == 0);
        all.sort((a, b) -> Integer.compare(a.number, b.number));
        return all;
    }

    /** All TABLES that the kinds have, as base 8 numbers, with the least rows, found shortest and least first. */
    private static void everyTable(int kinds) {
        List<Gate> gates = gates(kinds);
        Map<Integer, String> words = new HashMap<>();
        List<Integer> queue = new ArrayList<>();
        words.put(076543210, "lanes 3;");
        queue.add(076543210);
        // Met in the order of length and then of the row of numbers, so the first row that has a TABLE is LEAST.
        for (int i = 0; i < queue.size(); i++) {
            for (Gate gate : gates) {
                int table = behind(queue.get(i), gate);
                if (!words.containsKey(table)) {
                    words.put(table, words.get(queue.get(i)) + show(gate));
                    queue.add(table);
                }
            }
        }
        MarbleFloor x = new MarbleFloor();
        for (int i = queue.size() - 1; i >= 0; i--) {
            String word = words.get(queue.get(i));
            Check.floor(x, 0, word);
            if (i % 3 == 0) {
                x.lay(0, 0);
            }
            Check.due("least of " + word + " by " + kinds, x.least(0, kinds, 1), word.split(";").length - 1);
            Check.dueText("least by " + kinds, Check.show(x, 1), word);
        }
        if (queue.size() == 40320) {
            return;
        }
        Check check = new Check(kinds);
        for (int n = 0; n < 20; n++) {
            Check.floor(x, 0, check.floorText(3, 6));
            int table = 0;
            for (int row = 0; row < 8; row++) {
                table |= x.out(0, row, false) << 3 * row;
            }
            boolean there = words.containsKey(table);
            Check.due("is there one", x.least(0, kinds, 2) >= 0 ? 1 : 0, there ? 1 : 0);
        }
    }

    private static int behind(int table, Gate gate) {
        int next = 0;
        for (int row = 0; row < 8; row++) {
            next |= gate.pass(table >> 3 * row & 7) << 3 * row;
        }
        return next;
    }

    private static String show(Gate gate) {
        StringBuilder text = new StringBuilder(gate.swap ? " swap " + gate.first + " " + gate.second : " turn " + gate.first);
        for (int lane = 0; lane < 3; lane++) {
            if ((gate.ifs >> lane & 1) != 0) {
                text.append(" if ").append(lane);
            }
        }
        return text.append(';').toString();
    }

    private static void laidEdges() {
        MarbleFloor x = new MarbleFloor();
        Check.due("nothing to lay", x.lay(3, 4), 0);
        Check.floor(x, 0, "lanes 8; turn 7;");
        Check.due("one turn", x.lay(0, 1), 1);
        Check.dueText("one turn", Check.show(x, 1), "lanes 8; turn 7;");
        Check.floor(x, 0, "lanes 2; swap 0 1;");
        Check.due("a swap", x.lay(0, 0), 3);
        Check.dueText("a swap", Check.show(x, 0), "lanes 2; turn 0 if 1; turn 1 if 0; turn 0 if 1;");
    }

    private static void laid(Check check) {
        MarbleFloor x = new MarbleFloor();
        int lanes = 1 + check.below(8);
        String text = check.floorText(lanes, check.below(7));
        Check.floor(x, 0, text);
        int[] table = FloorTest.table(x, 0, lanes);
        List<String> turns = new ArrayList<>();
        for (int v = 0; v < table.length; v++) {
            for (int lane = 0; lane < lanes; lane++) {
                if ((v >> lane & 1) == 1 && (table[v] >> lane & 1) == 0) {
                    turns.add(turn(table, lane, table[v]));
                }
            }
            for (int lane = 0; lane < lanes; lane++) {
                if ((v >> lane & 1) == 0 && (table[v] >> lane & 1) == 1) {
                    turns.add(turn(table, lane, table[v] - (1 << lane)));
                }
            }
        }
        StringBuilder want = new StringBuilder("lanes " + lanes + ";");
        for (int i = turns.size() - 1; i >= 0; i--) {
            want.append(turns.get(i));
        }
        if (turns.size() > 40) {
            Check.due("lay of " + text, x.lay(0, 1), MarbleFloor.FULL);
            Check.dueText("nothing changed", Check.show(x, 1), "lanes 1;");
            return;
        }
        Check.due("lay of " + text, x.lay(0, 1), turns.size());
        Check.dueText("laid", Check.show(x, 1), want.toString());
        Check.due("the same table", x.apart(0, 1), -1);
    }

    private static String turn(int[] table, int lane, int ifs) {
        StringBuilder text = new StringBuilder(" turn " + lane);
        for (int i = 0; i < 8; i++) {
            text.append((ifs >> i & 1) == 1 ? " if " + i : "");
        }
        for (int row = 0; row < table.length; row++) {
            table[row] ^= (table[row] & ifs) == ifs ? 1 << lane : 0;
        }
        return text.append(';').toString();
    }
}
