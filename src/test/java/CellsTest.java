import java.util.ArrayDeque;
import java.util.Arrays;
import java.util.Deque;

/** Promises 21 to 27: THE TABLE of cells, against one that is done cell by cell and remembers what was. */
final class CellsTest {
    private static final int[] DX = {1, 0, -1, 0};
    private static final int[] DY = {0, 1, 0, -1};
    private static final int[][] SLANTS = {{0, 1, 2, 3}, {1, 0, 3, 2}, {3, 2, 1, 0}};

    private int wide = 4;
    private int high = 4;
    private int[][] parts = new int[4][4];
    private boolean[][][] balls = new boolean[4][4][4];
    private int heat = 0;
    private final Deque<boolean[][][]> past = new ArrayDeque<>();

    public static void main(String[] args) {
        edges();
        stops();
        meetings();
        rounds();
        for (int seed = 0; seed < 250; seed++) {
            new CellsTest().against(new Check(seed));
        }
        Check.finish("CellsTest");
    }

    private static void edges() {
        MarbleFloor x = new MarbleFloor();
        int[][] sides = {{1, 2}, {2, 1}, {11, 2}, {2, 11}, {0, 0}, {-3, 5}, {Integer.MAX_VALUE, Integer.MIN_VALUE}};
        x.ball(0, 0, 0, true);
        for (int[] side : sides) {
            Check.due("table", x.table(side[0], side[1]), -2);
        }
        Check.due("the old table stays", x.cell(0, 0), 1);
        Check.due("table(10, 2)", x.table(10, 2), 1);
        Check.due("count(4)", x.count(4), 10);
        Check.due("count(5)", x.count(5), 2);
        int[][] cells = {{-1, 0}, {0, -1}, {10, 0}, {0, 2}, {Integer.MAX_VALUE, 0}, {0, Integer.MIN_VALUE}};
        for (int[] c : cells) {
            Check.due("cell", x.cell(c[0], c[1]), -2);
            Check.due("part", x.part(c[0], c[1], 1), -2);
            Check.due("ball", x.ball(c[0], c[1], 0, true), -2);
        }
        Check.due("part -1", x.part(0, 0, -1), -2);
        Check.due("part 4", x.part(0, 0, 4), -2);
        Check.due("way -1", x.ball(0, 0, -1, true), -2);
        Check.due("way 4", x.ball(0, 0, 4, true), -2);
        Check.due("take none", x.ball(0, 0, 1, false), 0);
        Check.due("put", x.ball(9, 1, 1, true), 1);
        Check.due("take", x.ball(9, 1, 1, false), 1);
        int[] beats = {0, -1, 501, Integer.MIN_VALUE, Integer.MAX_VALUE};
        for (int n : beats) {
            Check.due("beat", x.beat(n), -2);
            Check.due("back", x.back(n), -2);
        }
        Check.due("beat(500)", x.beat(500), 0);
        Check.due("count(2)", x.count(2), 500);
        Check.due("back(500)", x.back(500), 0);
        Check.due("back(1)", x.back(1), -4);
        x.beat(3);
        Check.due("back(4)", x.back(4), -4);
        Check.due("nothing is changed", x.count(2), 3);
        x.ball(0, 0, 0, false);
        Check.due("a told ball begins anew", x.count(2), 0);
        x.beat(3);
        x.part(0, 0, 0);
        Check.due("a told part begins anew", x.count(2), 0);
        x.beat(3);
        x.part(0, 0, 9);
        x.ball(0, 7, 0, true);
        x.table(1, 1);
        x.round();
        Check.due("RANGE begins nothing", x.count(2), 3);
        x.table(3, 3);
        Check.due("a table begins anew", x.count(2), 0);
    }

    private static void stops() {
        MarbleFloor x = new MarbleFloor();
        x.table(3, 2);
        x.part(1, 0, 3);
        for (int way = 0; way < 4; way++) {
            x.ball(1, 0, way, true);
        }
        x.ball(1, 1, 3, true);
        Check.due("balls", x.count(3), 5);
        Check.due("round past a stop", x.round(), -1);
        Check.due("nothing is changed", x.count(1), 0);
        Check.due("beat", x.beat(1), 1);
        Check.due("heat", x.count(1), 4);
        Check.due("beat", x.beat(4), 0);
        Check.due("heat", x.count(1), 5);
        Check.due("undoable behind the stop", x.count(2), 3);
        Check.due("back too far", x.back(4), -4);
        Check.due("back", x.back(3), 0);
        Check.due("heat stays", x.count(1), 5);
        x.part(1, 0, 0);
        x.ball(0, 0, 0, true);
        Check.due("heat stays", x.count(1), 5);
        x.table(3, 2);
        Check.due("heat begins anew", x.count(1), 0);
        Check.due("parts are free", x.part(1, 0, 1), 0);
    }

    /** Each set of balls in one cell with each part, a beat on: what stands in which cell. */
    private static void meetings() {
        for (int kind = 0; kind < 3; kind++) {
            for (int set = 0; set < 16; set++) {
                MarbleFloor x = new MarbleFloor();
                x.table(3, 3);
                x.part(1, 1, kind);
                for (int way = 0; way < 4; way++) {
                    x.ball(1, 1, way, (set >> way & 1) != 0);
                }
                int out = 0;
                for (int way = 0; way < 4; way++) {
                    out |= (set >> way & 1) << SLANTS[kind][way];
                }
                if (kind == 0 && (set == 5 || set == 10)) {
                    out = 15 - set;
                }
                x.beat(1);
                for (int way = 0; way < 4; way++) {
                    Check.due("part " + kind + " set " + set, x.cell(1 + DX[way], 1 + DY[way]), (out >> way & 1) << way);
                }
                x.back(1);
                Check.due("and back", x.cell(1, 1), set);
                Check.due("and back", x.count(3), Integer.bitCount(set));
            }
        }
    }

    private static void rounds() {
        MarbleFloor x = new MarbleFloor();
        Check.due("no balls", x.round(), 1);
        x.part(2, 2, 3);
        Check.due("no balls, a stop", x.round(), 1);
        x.table(10, 7);
        x.ball(3, 3, 0, true);
        Check.due("to and fro", x.round(), 20);
        x.ball(4, 4, 1, true);
        Check.due("two of them", x.round(), 140);
        x.beat(7);
        Check.due("undoable stays", x.count(2), 7);
        Check.due("the same from elsewhere", x.round(), 140);
        Check.due("undoable stays", x.count(2), 7);
        x.table(6, 3);
        x.part(1, 0, 1);
        int[][] last = {{3, 2, 2}, {3, 2, 3}, {4, 0, 0}, {1, 2, 0}};
        for (int[] b : last) {
            x.ball(b[0], b[1], b[2], true);
        }
        Check.due("the last that is told", x.round(), 2000);
        x.table(7, 5);
        x.part(0, 1, 1);
        int[][] beyond = {{2, 1, 3}, {5, 1, 0}, {1, 1, 2}, {6, 4, 2}};
        for (int[] b : beyond) {
            x.ball(b[0], b[1], b[2], true);
        }
        Check.due("2002 is beyond", x.round(), -1);
        Check.due("balls as ahead", x.cell(2, 1), 8);
    }

    private void against(Check check) {
        MarbleFloor x = new MarbleFloor();
        for (int n = 0; n < 60; n++) {
            switch (check.below(12)) {
                case 0:
                    if (check.below(4) == 0) {
                        clear(2 + check.below(9), 2 + check.below(9));
                        Check.due("table", x.table(wide, high), 1);
                    }
                    break;
                case 1: case 2:
                    tellPart(x, check);
                    break;
                case 3: case 4: case 5: case 6:
                    tellBall(x, check);
                    break;
                case 7: case 8:
                    goOn(x, 1 + check.below(check.coin() ? 3 : 60));
                    break;
                case 9: case 10:
                    goBack(x, 1 + check.below(40));
                    break;
                default:
                    Check.due("round", x.round(), round());
                    break;
            }
            compare(x);
        }
    }

    private void clear(int newWide, int newHigh) {
        wide = newWide;
        high = newHigh;
        parts = new int[wide][high];
        balls = new boolean[wide][high][4];
        heat = 0;
        past.clear();
    }

    private void tellPart(MarbleFloor x, Check check) {
        int a = check.below(wide);
        int b = check.below(high);
        int kind = check.below(check.below(5) == 0 ? 4 : 3);
        Check.due("part", x.part(a, b, kind), parts[a][b]);
        parts[a][b] = kind;
        past.clear();
    }

    private void tellBall(MarbleFloor x, Check check) {
        int a = check.below(wide);
        int b = check.below(high);
        int way = check.below(4);
        boolean there = check.below(4) > 0;
        Check.due("ball", x.ball(a, b, way, there), balls[a][b][way] == there ? 0 : 1);
        balls[a][b][way] = there;
        past.clear();
    }

    private void goOn(MarbleFloor x, int n) {
        for (int i = 0; i < n; i++) {
            boolean[][][] was = balls;
            int before = heat;
            beat();
            if (heat == before) {
                past.push(was);
            } else {
                past.clear();
            }
        }
        Check.due("beat", x.beat(n), count(balls));
    }

    private void goBack(MarbleFloor x, int n) {
        if (n > past.size()) {
            Check.due("back", x.back(n), -4);
            return;
        }
        for (int i = 0; i < n; i++) {
            balls = past.pop();
        }
        Check.due("back", x.back(n), count(balls));
    }

    private int round() {
        boolean[][][] now = balls;
        int before = heat;
        int told = -1;
        for (int n = 1; n <= 2000 && told < 0 && heat == before; n++) {
            beat();
            told = heat == before && Arrays.deepEquals(now, balls) ? n : -1;
        }
        heat = before;
        balls = now;
        return told;
    }

    private void beat() {
        boolean[][][] next = new boolean[wide][high][4];
        for (int a = 0; a < wide; a++) {
            for (int b = 0; b < high; b++) {
                boolean[] here = balls[a][b];
                int many = count(new boolean[][][] {{here}});
                if (parts[a][b] == 3) {
                    heat += many;
                    continue;
                }
                boolean meet = parts[a][b] == 0 && many == 2 && here[0] == here[2];
                for (int way = 0; way < 4; way++) {
                    if (here[way]) {
                        send(next, a, b, meet ? (way + 1) % 4 : SLANTS[parts[a][b]][way]);
                    }
                }
            }
        }
        balls = next;
    }

    private void send(boolean[][][] next, int a, int b, int way) {
        int c = a + DX[way];
        int d = b + DY[way];
        if (c < 0 || c >= wide || d < 0 || d >= high) {
            next[a][b][(way + 2) % 4] = true;
        } else {
            next[c][d][way] = true;
        }
    }

    private static int count(boolean[][][] of) {
        int many = 0;
        for (boolean[][] column : of) {
            for (boolean[] cell : column) {
                for (boolean ball : cell) {
                    many += ball ? 1 : 0;
                }
            }
        }
        return many;
    }

    private void compare(MarbleFloor x) {
        Check.due("count(1)", x.count(1), heat);
        Check.due("count(2)", x.count(2), past.size());
        Check.due("count(3)", x.count(3), count(balls));
        for (int a = 0; a < wide; a++) {
            for (int b = 0; b < high; b++) {
                int bits = 0;
                for (int way = 0; way < 4; way++) {
                    bits += balls[a][b][way] ? 1 << way : 0;
                }
                Check.due("cell", x.cell(a, b), bits);
            }
        }
    }
}
