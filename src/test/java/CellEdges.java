/** The edges that the document names of THE TABLE of cells: its sides, balls, parts, BEATS, BACK and ROUND. */
final class CellEdges {
    private static final int NONE = MarbleFloor.NONE;
    private static final int RANGE = MarbleFloor.RANGE;
    private static final int STATE = MarbleFloor.STATE;
    private static final int[] DX = {1, 0, -1, 0};
    private static final int[] DY = {0, 1, 0, -1};
    private static final int[] WILD = {Integer.MIN_VALUE, Integer.MAX_VALUE};

    private CellEdges() {
    }

    static void all() {
        sides();
        ways();
        slants();
        meetings();
        stops();
        rims();
        partCall();
        ballCall();
        cellCall();
        beatCall();
        backCall();
        begunAnew();
        backBehindStops();
        roundCall();
    }

    private static MarbleFloor table(int wide, int high) {
        MarbleFloor x = new MarbleFloor();
        Check.due("table(" + wide + ", " + high + ")", x.table(wide, high), 1);
        return x;
    }

    private static void sides() {
        Doc.terms("IV. THE TABLE of cells: 2 .. 10 wide and high;");
        Doc.promise(21, "A TABLE of cells, free and empty, HEAT 0: 1;");
        Doc.promise(21, "RANGE.");
        MarbleFloor x = new MarbleFloor();
        for (int wide = -1; wide <= 12; wide++) {
            for (int high = -1; high <= 12; high++) {
                boolean fine = wide >= 2 && wide <= 10 && high >= 2 && high <= 10;
                Check.due("table(" + wide + ", " + high + ")", x.table(wide, high), fine ? 1 : RANGE);
                if (fine) {
                    Check.due("the last cell", x.cell(wide - 1, high - 1), 0);
                    Check.due("its part", x.part(wide - 1, high - 1, 3), 0);
                    Check.due("beyond the east", x.cell(wide, high - 1), RANGE);
                    Check.due("beyond the north", x.cell(wide - 1, high), RANGE);
                }
            }
        }
        for (int wild : WILD) {
            Check.due("table(" + wild + ", 5)", x.table(wild, 5), RANGE);
            Check.due("table(5, " + wild + ")", x.table(5, wild), RANGE);
        }
        Check.due("RANGE changes nothing", x.count(4), 10);
        Check.due("RANGE changes nothing", x.part(9, 9, 0), 3);
        x.part(5, 5, 3);
        x.ball(5, 5, 0, true);
        x.ball(6, 6, 1, true);
        x.beat(1);
        Check.due("HEAT", x.count(1), 1);
        Check.due("table(1, 10)", x.table(1, 10), RANGE);
        Check.due("HEAT stays", x.count(1), 1);
        Check.due("balls stay", x.count(3), 1);
        x.beat(2);
        Check.due("table(10, 10)", x.table(10, 10), 1);
        Check.due("HEAT 0", x.count(1), 0);
        Check.due("empty", x.count(3), 0);
        Check.due("no BEATS", x.count(2), 0);
        for (int i = 0; i < 100; i++) {
            Check.due("free", x.part(i % 10, i / 10, 0), 0);
            Check.due("empty", x.cell(i % 10, i / 10), 0);
        }
    }

    private static void ways() {
        Doc.terms("each cell has at most one ball going each way (0 east, 1 north, 2 west, 3 south; y grows to the north).");
        for (int way = 0; way < 4; way++) {
            MarbleFloor x = table(3, 3);
            x.ball(1, 1, way, true);
            x.ball(1, 1, way, true);
            Check.due("one ball", x.count(3), 1);
            Check.due("beat", x.beat(1), 1);
            Check.due("way " + way, x.cell(1 + DX[way], 1 + DY[way]), 1 << way);
            Check.due("gone from where it was", x.cell(1, 1), 0);
        }
    }

    /** A ball that comes into a part goes out to another way. */
    private static void turns(int kind, int in, int out) {
        MarbleFloor x = table(3, 3);
        x.part(1, 1, kind);
        x.ball(1, 1, in, true);
        x.beat(1);
        Check.due("part " + kind + ", way " + in, x.cell(1 + DX[out], 1 + DY[out]), 1 << out);
        x.back(1);
        Check.due("and back", x.cell(1, 1), 1 << in);
    }

    private static void slants() {
        Doc.terms("PARTS: 0 free,");
        for (int way = 0; way < 4; way++) {
            turns(0, way, way);
        }
        Doc.terms("1 a slant that turns east to north and north to east, west to south and south to west,");
        turns(1, 0, 1);
        turns(1, 1, 0);
        turns(1, 2, 3);
        turns(1, 3, 2);
        Doc.terms("2 a slant east to south and south to east, west to north and north to west,");
        turns(2, 0, 3);
        turns(2, 3, 0);
        turns(2, 2, 1);
        turns(2, 1, 2);
        Doc.terms("slants turn each ball;");
        for (int kind = 1; kind <= 2; kind++) {
            for (int set = 0; set < 16; set++) {
                int out = 0;
                for (int way = 0; way < 4; way++) {
                    out |= (set >> way & 1) << (kind == 1 ? way ^ 1 : 3 - way);
                }
                spread(kind, set, out);
            }
        }
    }

    /** Balls of one cell, a beat on and back. */
    private static void spread(int kind, int set, int out) {
        MarbleFloor x = table(3, 3);
        x.part(1, 1, kind);
        for (int way = 0; way < 4; way++) {
            x.ball(1, 1, way, (set >> way & 1) != 0);
        }
        Check.due("beat", x.beat(1), Integer.bitCount(out));
        for (int way = 0; way < 4; way++) {
            Check.due("part " + kind + " with " + set, x.cell(1 + DX[way], 1 + DY[way]), out & 1 << way);
        }
        Check.due("back", x.back(1), Integer.bitCount(set));
        Check.due("and back", x.cell(1, 1), set);
    }

    private static void meetings() {
        Doc.terms("A BEAT: first in each cell: free: if it has just two balls and these go against each other, both turn to the two"
            + " other ways;");
        for (int set = 0; set < 16; set++) {
            spread(0, set, set == 5 ? 10 : set == 10 ? 5 : set);
        }
        MarbleFloor x = table(4, 2);
        x.ball(1, 0, 0, true);
        x.ball(2, 0, 2, true);
        x.beat(1);
        Check.due("balls that pass between cells don't meet", x.cell(1, 0), 4);
        Check.due("balls that pass between cells don't meet", x.cell(2, 0), 1);
    }

    private static void stops() {
        Doc.terms("3 a STOP.");
        Doc.terms("a STOP takes all balls (HEAT: so many).");
        for (int set = 0; set < 16; set++) {
            MarbleFloor x = table(3, 3);
            x.part(1, 1, 3);
            for (int way = 0; way < 4; way++) {
                x.ball(1, 1, way, (set >> way & 1) != 0);
            }
            x.ball(0, 1, 0, true);
            Check.due("all are there", x.count(3), Integer.bitCount(set) + 1);
            Check.due("beat", x.beat(1), 1);
            Check.due("HEAT", x.count(1), Integer.bitCount(set));
            Check.due("it came into the STOP", x.cell(1, 1), 1);
            Check.due("beat", x.beat(1), 0);
            Check.due("HEAT", x.count(1), Integer.bitCount(set) + 1);
        }
    }

    private static void rims() {
        Doc.terms("Then each ball goes to the next cell its way; at the rim it comes to the same cell going the other way.");
        for (int wide = 2; wide <= 10; wide++) {
            for (int high = 2; high <= 10; high++) {
                for (int way = 0; way < 4; way++) {
                    int a = way == 0 ? wide - 1 : way == 2 ? 0 : wide / 2;
                    int b = way == 1 ? high - 1 : way == 3 ? 0 : high / 2;
                    MarbleFloor x = table(wide, high);
                    x.ball(a, b, way, true);
                    x.beat(1);
                    Check.due("the same cell, the other way", x.cell(a, b), 1 << (way ^ 2));
                    x.beat(1);
                    Check.due("away from the rim", x.cell(a - DX[way], b - DY[way]), 1 << (way ^ 2));
                    x.back(2);
                    Check.due("and back", x.cell(a, b), 1 << way);
                }
            }
        }
        MarbleFloor x = table(2, 2);
        x.part(1, 1, 1);
        x.ball(1, 1, 0, true);
        x.beat(1);
        Check.due("turned first, then at the rim", x.cell(1, 1), 8);
        x.beat(1);
        Check.due("turned from south to west", x.cell(0, 1), 4);
        x = table(2, 2);
        x.ball(0, 0, 0, true);
        x.ball(0, 0, 2, true);
        x.beat(1);
        Check.due("two that meet at a corner: north", x.cell(0, 1), 2);
        Check.due("two that meet at a corner: south", x.cell(0, 0), 2);
    }

    private static void partCall() {
        Doc.promise(22, "A cell has a PART (0 .. 3): what it had;");
        MarbleFloor x = table(10, 10);
        int had = 0;
        for (int n = 0; n < 17; n++) {
            int kind = n * 7 % 16 / 4;
            Check.due("part(9, 0, " + kind + ")", x.part(9, 0, kind), had);
            had = kind;
        }
        Check.due("others stay", x.part(0, 9, 0), 0);
        x.ball(9, 0, 3, true);
        x.part(9, 0, 3);
        Check.due("balls stay", x.cell(9, 0), 8);
        Doc.promise(22, "RANGE.");
        int[] kinds = {-1, 4, 5, Integer.MIN_VALUE, Integer.MAX_VALUE};
        for (int kind : kinds) {
            Check.due("part(0, 0, " + kind + ")", x.part(0, 0, kind), RANGE);
        }
        noCells(x, 10, 10);
        Check.due("nothing is changed", x.part(0, 0, 0), 0);
        noCells(table(2, 10), 2, 10);
        noCells(table(10, 2), 10, 2);
        noCells(new MarbleFloor(), 4, 4);
    }

    private static void noCells(MarbleFloor x, int wide, int high) {
        int[][] none = {{-1, 0}, {0, -1}, {wide, 0}, {0, high}, {wide, high}, {wide - 1, high}, {wide, high - 1}, {WILD[0], 0},
            {0, WILD[0]}, {WILD[1], 0}, {0, WILD[1]}};
        for (int[] c : none) {
            Check.due("cell(" + c[0] + ", " + c[1] + ")", x.cell(c[0], c[1]), RANGE);
            Check.due("part(" + c[0] + ", " + c[1] + ", 1)", x.part(c[0], c[1], 1), RANGE);
            Check.due("ball(" + c[0] + ", " + c[1] + ", 0, true)", x.ball(c[0], c[1], 0, true), RANGE);
            Check.due("ball(" + c[0] + ", " + c[1] + ", 0, false)", x.ball(c[0], c[1], 0, false), RANGE);
        }
        Check.due("the last cell is there", x.cell(wide - 1, high - 1) < 0 ? 0 : 1, 1);
    }

    private static void ballCall() {
        Doc.promise(23, "A ball going a way is set in a cell, or taken: 1 if it was otherwise, else 0;");
        MarbleFloor x = table(10, 2);
        for (int way = 0; way < 4; way++) {
            Check.due("taken, there is none", x.ball(9, 1, way, false), 0);
            Check.due("set", x.ball(9, 1, way, true), 1);
            Check.due("set again", x.ball(9, 1, way, true), 0);
            Check.due("the cell", x.cell(9, 1), (2 << way) - 1);
        }
        Check.due("balls", x.count(3), 4);
        for (int way = 0; way < 4; way++) {
            Check.due("taken", x.ball(9, 1, way, false), 1);
            Check.due("taken again", x.ball(9, 1, way, false), 0);
        }
        Check.due("balls", x.count(3), 0);
        Doc.promise(23, "RANGE.");
        int[] none = {-1, 4, 5, Integer.MIN_VALUE, Integer.MAX_VALUE};
        for (int way : none) {
            Check.due("ball(0, 0, " + way + ", true)", x.ball(0, 0, way, true), RANGE);
            Check.due("ball(0, 0, " + way + ", false)", x.ball(0, 0, way, false), RANGE);
        }
        noCells(x, 10, 2);
        Check.due("nothing is changed", x.count(3), 0);
    }

    private static void cellCall() {
        Doc.promise(24, "Balls of a cell, as bits by ways;");
        MarbleFloor x = table(3, 3);
        for (int set = 0; set < 16; set++) {
            for (int way = 0; way < 4; way++) {
                x.ball(2, 0, way, (set >> way & 1) != 0);
            }
            Check.due("cell(2, 0)", x.cell(2, 0), set);
            Check.due("cell(0, 2)", x.cell(0, 2), 0);
        }
        Doc.promise(24, "RANGE.");
        noCells(x, 3, 3);
    }

    private static void beatCall() {
        Doc.promise(25, "So many BEATS (1 .. 500) are done: how many balls there are;");
        MarbleFloor x = table(10, 2);
        x.ball(0, 0, 0, true);
        x.ball(0, 1, 0, true);
        Check.due("beat(1)", x.beat(1), 2);
        Check.due("one cell on", x.cell(1, 0), 1);
        Check.due("beat(499)", x.beat(499), 2);
        Check.due("25 times around", x.cell(0, 0), 1);
        Check.due("beat(500)", x.beat(500), 2);
        Check.due("25 times around", x.cell(0, 0), 1);
        Check.due("count(2)", x.count(2), 1000);
        x.part(9, 0, 3);
        Check.due("beat(9)", x.beat(9), 2);
        Check.due("beat(1)", x.beat(1), 1);
        Doc.promise(25, "RANGE.");
        int[] none = {0, -1, 501, 502, Integer.MIN_VALUE, Integer.MAX_VALUE};
        for (int n : none) {
            Check.due("beat(" + n + ")", x.beat(n), RANGE);
        }
        Check.due("nothing is changed", x.count(2), 0);
        Check.due("nothing is changed", x.cell(9, 1), 4);
    }

    private static void backCall() {
        Doc.terms("BACK, a BEAT: the undoing of that;");
        Doc.promise(26, "So many BEATS (1 .. 500) are undone: how many balls there are;");
        MarbleFloor x = table(10, 2);
        x.ball(0, 0, 0, true);
        x.beat(500);
        x.beat(100);
        Check.due("back(500)", x.back(500), 1);
        Check.due("count(2)", x.count(2), 100);
        Check.due("back(1)", x.back(1), 1);
        Check.due("back(99)", x.back(99), 1);
        Check.due("where it was", x.cell(0, 0), 1);
        Doc.promise(26, "RANGE;");
        x.beat(500);
        x.beat(500);
        int[] none = {0, -1, 501, 502, 1000, Integer.MIN_VALUE, Integer.MAX_VALUE};
        for (int n : none) {
            Check.due("back(" + n + ")", x.back(n), RANGE);
            Check.due("back(" + n + ") of a new one", new MarbleFloor().back(n), RANGE);
        }
        Check.due("nothing is changed", x.count(2), 1000);
        Doc.promise(26, "STATE: so many can't be (nothing is changed).");
        Check.due("back(1) of a new one", new MarbleFloor().back(1), STATE);
        Check.due("back(500) of a new one", new MarbleFloor().back(500), STATE);
        x = table(5, 5);
        x.ball(0, 0, 0, true);
        x.beat(3);
        Check.due("back(4)", x.back(4), STATE);
        Check.due("nothing is changed", x.cell(3, 0), 1);
        Check.due("nothing is changed", x.count(2), 3);
        Check.due("back(3)", x.back(3), 1);
        Check.due("back(1)", x.back(1), STATE);
        Check.due("where it was", x.cell(0, 0), 1);
        Check.due("count(2)", x.count(2), 0);
        x.beat(2);
        x.back(1);
        Check.due("back(2)", x.back(2), STATE);
        x.beat(1);
        Check.due("back(2)", x.back(2), 1);
    }

    private static void begunAnew() {
        Doc.terms("(all told balls and parts begin it anew).");
        MarbleFloor x = table(5, 5);
        x.beat(2);
        x.ball(4, 4, 1, true);
        Check.due("a ball is set", x.count(2), 0);
        Check.due("back(1)", x.back(1), STATE);
        x.beat(2);
        Check.due("behind it BEATS count again", x.back(2), 1);
        x.beat(2);
        x.ball(0, 0, 0, false);
        Check.due("a ball is told that isn't there anyway", x.count(2), 0);
        x.beat(2);
        x.part(0, 0, 1);
        Check.due("a part is told", x.back(1), STATE);
        x.beat(2);
        x.part(0, 0, 1);
        Check.due("a part is told that is there anyway", x.back(1), STATE);
        x.beat(2);
        x.ball(5, 0, 0, true);
        x.ball(0, 0, 4, true);
        x.part(0, 5, 0);
        x.part(0, 0, 4);
        x.table(1, 2);
        x.cell(0, 0);
        x.round();
        x.beat(0);
        x.beat(501);
        x.back(501);
        x.back(3);
        Check.due("RANGE, STATE and what only tells begin nothing", x.count(2), 2);
        Check.due("back(2)", x.back(2), 1);
    }

    private static void backBehindStops() {
        Doc.terms("it can be done behind BEATS in which no STOP took a ball");
        MarbleFloor x = table(6, 2);
        x.part(3, 0, 3);
        x.ball(0, 0, 0, true);
        x.ball(0, 1, 0, true);
        x.beat(3);
        Check.due("none was taken yet", x.count(2), 3);
        Check.due("back(3)", x.back(3), 2);
        Check.due("beat(4)", x.beat(4), 1);
        Check.due("one was taken in the last", x.count(2), 0);
        Check.due("back(1)", x.back(1), STATE);
        Check.due("HEAT stays", x.count(1), 1);
        Check.due("beat(2)", x.beat(2), 1);
        Check.due("behind it", x.count(2), 2);
        Check.due("back(3)", x.back(3), STATE);
        Check.due("back(2)", x.back(2), 1);
        Check.due("HEAT stays", x.count(1), 1);
        x = table(6, 2);
        x.part(3, 0, 3);
        x.ball(0, 0, 0, true);
        x.ball(0, 1, 0, true);
        Check.due("one is taken amid them", x.beat(10), 1);
        Check.due("behind it", x.count(2), 6);
        Check.due("back(7)", x.back(7), STATE);
        Check.due("back(6)", x.back(6), 1);
        Check.due("where it was then", x.cell(4, 1), 1);
    }

    private static void roundCall() {
        Doc.terms("ROUND: the fewest BEATS (1 .. 2000) behind which all balls are as now, if no STOP takes one by then.");
        Doc.promise(27, "ROUND: BEATS;");
        MarbleFloor x = new MarbleFloor();
        Check.due("no balls", x.round(), 1);
        x.part(0, 0, 3);
        Check.due("no balls and a STOP", x.round(), 1);
        for (int wide = 2; wide <= 10; wide++) {
            x = table(wide, 2);
            x.ball(0, 0, 0, true);
            Check.due("to and fro", x.round(), 2 * wide);
            x.part(0, 1, 3);
            Check.due("past a STOP", x.round(), 2 * wide);
        }
        x = table(2, 2);
        x.part(0, 0, 1);
        x.part(1, 1, 1);
        x.part(0, 1, 2);
        x.part(1, 0, 2);
        x.ball(0, 0, 2, true);
        x.ball(0, 0, 3, true);
        int told = x.round();
        x.beat(told);
        Check.due("as it was", x.cell(0, 0), 12);
        x = table(3, 2);
        for (int way = 0; way < 4; way++) {
            for (int i = 0; i < 6; i++) {
                x.ball(i % 3, i / 3, way, true);
            }
        }
        Check.due("all balls there are", x.round(), 1);
        Doc.promise(27, "NONE: none to 2000 (also: a STOP takes one by then).");
        x = table(6, 3);
        x.part(1, 0, 1);
        int[][] last = {{3, 2, 2}, {3, 2, 3}, {4, 0, 0}, {1, 2, 0}};
        for (int[] b : last) {
            x.ball(b[0], b[1], b[2], true);
        }
        Check.due("2000", x.round(), 2000);
        x.beat(500);
        Check.due("2000 from elsewhere", x.round(), 2000);
        x = table(7, 10);
        x.part(2, 5, 2);
        x.part(1, 3, 1);
        int[][] first = {{4, 3, 0}, {1, 0, 3}, {5, 0, 3}, {5, 6, 1}};
        for (int[] b : first) {
            x.ball(b[0], b[1], b[2], true);
        }
        Check.due("2001", x.round(), NONE);
        for (int n = 0; n < 4; n++) {
            x.beat(500);
        }
        x.beat(1);
        for (int[] b : first) {
            Check.due("behind 2001 they are as they were", x.cell(b[0], b[1]), 1 << b[2]);
        }
        x = table(7, 5);
        x.part(0, 1, 1);
        int[][] beyond = {{2, 1, 3}, {5, 1, 0}, {1, 1, 2}, {6, 4, 2}};
        for (int[] b : beyond) {
            x.ball(b[0], b[1], b[2], true);
        }
        Check.due("2002", x.round(), NONE);
        for (int stop = 0; stop < 10; stop++) {
            x = table(10, 2);
            x.ball(0, 0, 0, true);
            x.ball(3, 1, 1, true);
            x.part(stop, 0, 3);
            Check.due("a STOP takes one", x.round(), NONE);
        }
        Doc.promise(27, "(Nothing is changed.)");
        x = table(10, 2);
        x.ball(0, 0, 0, true);
        x.beat(3);
        x.round();
        Check.due("balls", x.cell(3, 0), 1);
        Check.due("BEATS", x.count(2), 3);
        Check.due("back(3)", x.back(3), 1);
        x.part(3, 0, 3);
        Check.due("round", x.round(), NONE);
        Check.due("HEAT", x.count(1), 0);
        Check.due("balls", x.cell(0, 0), 1);
        Check.due("parts", x.part(3, 0, 3), 3);
    }
}
