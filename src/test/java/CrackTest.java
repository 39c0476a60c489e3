import java.util.ArrayList;
import java.util.HashMap;
import java.util.List;
import java.util.Map;

/** Promises 30 to 34: a watched FLOOR, against running it with each STEP left out. */
final class CrackTest {
    private record Telling(int told, int k, int row, int out, boolean right) {
    }

    public static void main(String[] args) {
        unwatched();
        ranges();
        fullRows();
        watchedAsItWas();
        forty();
        for (int seed = 0; seed < 300; seed++) {
            against(new Check(seed));
        }
        Check.finish("CrackTest");
    }

    private static void unwatched() {
        MarbleFloor x = new MarbleFloor();
        Check.due("see", x.see(0, 0, 0), -4);
        Check.due("see", x.see(999, 255, 255), -4);
        Check.due("see", x.see(1000, 0, 0), -2);
        Check.due("see", x.see(-1, 0, 0), -2);
        Check.due("see", x.see(0, 256, 0), -2);
        Check.due("see", x.see(0, 0, 256), -2);
        Check.due("see", x.see(0, -1, 0), -2);
        Check.due("see", x.see(0, 0, -1), -2);
        Check.due("right", x.right(0, 0, 0), -2);
        Check.due("fit", x.fit(999), -4);
        Check.due("fit", x.fit(1000), -2);
        Check.due("fit", x.fit(-1), -2);
        Check.due("look", x.look(), -4);
        Check.due("watch(6)", x.watch(6), -2);
        Check.due("still none", x.look(), -4);
    }

    private static void ranges() {
        MarbleFloor x = new MarbleFloor();
        Check.floor(x, 0, "lanes 2; turn 0;");
        Check.due("watch", x.watch(0), 1);
        int[] bad = {-1, 4, Integer.MIN_VALUE, Integer.MAX_VALUE};
        for (int row : bad) {
            Check.due("see, row", x.see(0, row, 0), -2);
            Check.due("see, out", x.see(0, 0, row), -2);
        }
        Check.due("see", x.see(5, 3, 2), 0);
        Check.due("see, falling", x.see(4, 3, 2), -2);
        Check.due("see, the same", x.see(5, 1, 1), 1);
        for (int row : bad) {
            Check.due("right, out", x.right(5, 0, row), -2);
            Check.due("right, k", x.right(5, row, 0), -2);
        }
        Check.due("right, k", x.right(5, 2, 0), -2);
        Check.due("right, falling", x.right(4, 0, 0), -2);
        Check.due("right, above", x.right(1000, 0, 0), -2);
        Check.due("right", x.right(7, 0, 0), 1);
        Check.due("right again", x.right(7, 0, 3), 2);
        Check.due("right another", x.right(8, 1, 1), 1);
        Check.due("see behind right", x.see(7, 0, 0), -2);
        Check.due("see above", x.see(1000, 0, 0), -2);
        Check.due("see", x.see(999, 0, 0), 2);
        Check.due("fit", x.fit(1000), -2);
        Check.due("fit", x.fit(-1), -2);
        Check.due("fit ahead of all", x.fit(4), 1L << 40 | 1);
        Check.due("fit 5: 3 to 2, 1 to 1", x.fit(5), 0);
        Check.due("fit 6 as 5", x.fit(6), 0);
        Check.due("fit 7: 3 to 3, 1 to 1", x.fit(7), 1);
        Check.due("fit 999", x.fit(999), 1);
        Check.due("watch anew", x.watch(0), 1);
        Check.due("none seen", x.count(6), 0);
        Check.due("none right", x.count(7), 0);
        Check.due("telling begins at 0", x.see(0, 0, 0), 0);
    }

    private static void fullRows() {
        MarbleFloor x = new MarbleFloor();
        x.watch(0);
        for (int i = 0; i < 20; i++) {
            Check.due("see", x.see(i, i % 2, i % 2), i);
        }
        Check.due("see, the 21st", x.see(20, 0, 0), -3);
        Check.due("see, RANGE ahead of FULL", x.see(20, 2, 0), -2);
        Check.due("seen", x.count(6), 20);
        Check.due("FULL tells nothing", x.right(19, 3, 0), 1);
        for (int i = 1; i < 20; i++) {
            Check.due("right", x.right(20, i, 1), i == 3 ? 2 : 1);
        }
        Check.due("right, the 21st", x.right(20, 0, 1), -3);
        Check.due("right, RANGE ahead of FULL", x.right(19, 0, 1), -2);
        Check.due("rights", x.count(7), 20);
    }

    private static void watchedAsItWas() {
        MarbleFloor x = new MarbleFloor();
        Check.floor(x, 0, "lanes 3; turn 0; turn 1; turn 2;");
        Check.due("watch", x.watch(0), 3);
        Check.floor(x, 0, "lanes 1;");
        Check.due("fit", x.fit(0), 1L << 40 | 7);
        Check.due("see", x.see(0, 7, 2), 0);
        Check.due("fit", x.fit(0), 2);
        Check.due("look, one is left", x.look(), -1);
        Check.due("right", x.right(0, 0, 6), 1);
        Check.due("fit, none", x.fit(0), 0);
        Check.due("look, none is left", x.look(), -1);
    }

    private static void forty() {
        MarbleFloor x = new MarbleFloor();
        Check.floor(x, 0, "lanes 8;" + "turn 7;".repeat(40));
        Check.due("watch", x.watch(0), 40);
        Check.due("fit", x.fit(0), (1L << 41) - 1);
        Check.due("look", x.look(), 0);
        x.see(0, 0, 128);
        Check.due("fit", x.fit(0), (1L << 40) - 1);
        Check.due("look, none parts them", x.look(), -1);
        x.right(1, 0, 0);
        Check.due("fit", x.fit(1), 1L << 40);
    }

    private static void against(Check check) {
        MarbleFloor x = new MarbleFloor();
        int lanes = 1 + check.below(8);
        int steps = check.below(41);
        Check.floor(x, 3, check.floorText(lanes, check.below(Math.min(steps + 1, 26))));
        steps = x.watch(3);
        int[][] outs = new int[steps + 1][];
        for (int c = 0; c <= steps; c++) {
            outs[c] = without(x, c, steps, lanes);
        }
        int truth = check.below(steps + 1);
        List<Telling> tellings = new ArrayList<>();
        int told = 0;
        int seen = 0;
        for (int n = 0; n < 14; n++) {
            told += check.below(3);
            if (seen > 0 && check.below(3) == 0) {
                int k = check.below(seen);
                int out = check.below(1 << lanes);
                Check.due("right", x.right(told, k, out) > 0 ? 1 : 0, 1);
                tellings.add(new Telling(told, k, 0, out, true));
            } else {
                int row = check.below(1 << lanes);
                int out = check.below(6) == 0 ? check.below(1 << lanes) : outs[truth][row];
                Check.due("see", x.see(told, row, out), seen);
                tellings.add(new Telling(told, seen, row, out, false));
                seen++;
            }
            for (int known = 0; known <= told; known++) {
                Check.due("fit", x.fit(known), fit(outs, tellings, known));
            }
            Check.due("look", x.look(), look(outs, fit(outs, tellings, 999), 1 << lanes));
        }
    }

    private static int[] without(MarbleFloor x, int cracked, int steps, int lanes) {
        int[] outs = new int[1 << lanes];
        for (int row = 0; row < outs.length; row++) {
            boolean[] balls = new boolean[lanes];
            for (int lane = 0; lane < lanes; lane++) {
                balls[lane] = (row >> lane & 1) != 0;
            }
            for (int i = 0; i < steps; i++) {
                if (i != cracked) {
                    FloorTest.pass(x, 3, i, balls);
                }
            }
            for (int lane = 0; lane < lanes; lane++) {
                outs[row] += balls[lane] ? 1 << lane : 0;
            }
        }
        return outs;
    }

    private static long fit(int[][] outs, List<Telling> tellings, int known) {
        Map<Integer, Telling> rows = new HashMap<>();
        Map<Integer, Integer> ends = new HashMap<>();
        for (Telling t : tellings) {
            if (t.told <= known) {
                if (!t.right) {
                    rows.put(t.k, t);
                }
                ends.put(t.k, t.out);
            }
        }
        long fit = 0;
        for (int c = 0; c < outs.length; c++) {
            boolean fits = true;
            for (Map.Entry<Integer, Telling> e : rows.entrySet()) {
                fits &= outs[c][e.getValue().row] == ends.get(e.getKey());
            }
            fit |= fits ? 1L << (c == outs.length - 1 ? 40 : c) : 0;
        }
        return fit;
    }

    private static int look(int[][] outs, long fit, int rows) {
        int best = -1;
        int least = Integer.MAX_VALUE;
        boolean parted = false;
        for (int row = 0; row < rows; row++) {
            Map<Integer, Integer> heaps = new HashMap<>();
            for (int c = 0; c < outs.length; c++) {
                if ((fit >> (c == outs.length - 1 ? 40 : c) & 1) != 0) {
                    heaps.merge(outs[c][row], 1, Integer::sum);
                }
            }
            int greatest = heaps.values().stream().mapToInt(v -> v).max().orElse(0);
            parted |= heaps.size() > 1;
            if (greatest < least) {
                least = greatest;
                best = row;
            }
        }
        return parted ? best : -1;
    }
}
