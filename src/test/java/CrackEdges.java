/** The edges that the document names of TRAILS, and of a watched FLOOR: SEEN, RIGHT, FIT and LOOK. */
final class CrackEdges {
    private static final int NONE = MarbleFloor.NONE;
    private static final int RANGE = MarbleFloor.RANGE;
    private static final int FULL = MarbleFloor.FULL;
    private static final int STATE = MarbleFloor.STATE;
    private static final long UNCRACKED = 1L << 40;
    private static final int[] WILD = {Integer.MIN_VALUE, Integer.MAX_VALUE};

    private CrackEdges() {
    }

    static void all() {
        trailCall();
        moveCall();
        watchCall();
        seeCall();
        tellings();
        rightCall();
        fitCall();
        known();
        lookCall();
    }

    private static String moves(MarbleFloor x) {
        StringBuilder told = new StringBuilder();
        for (int i = 0; x.move(i) != NONE; i++) {
            told.append(i == 0 ? "" : " ").append(x.move(i));
        }
        return told.toString();
    }

    private static void trailCall() {
        Doc.terms("V. TRAILS: a row of n places (1 .. 12), all empty. A MOVE fills or empties a place i (from 1 on): i is 1, or the place"
            + " ahead of it is full;");
        MarbleFloor x = new MarbleFloor();
        for (int n = 1; n <= 12; n++) {
            Check.due("trail(" + n + ", 12)", x.trail(n, 12), 2 * n - 1);
            for (int i = 0; i < 2 * n - 1; i++) {
                Check.due("up to the last and down again", x.move(i), i < n ? i + 1 : 2 * n - 1 - i);
            }
            Check.due("trail(" + n + ", " + n + ")", x.trail(n, n), 2 * n - 1);
        }
        Doc.terms("at most k full at once.");
        // With k at once the farthest place is 1, 2, 4, 8: each one more doubles it.
        int[] farthest = {1, 2, 4, 8, 12};
        for (int k = 1; k <= 5; k++) {
            for (int n = 1; n <= 12; n++) {
                Check.due("can be " + n + ", " + k, x.trail(n, k) == NONE ? 0 : 1, n <= farthest[k - 1] ? 1 : 0);
            }
        }
        Doc.terms("FEWEST MOVES: to the last place alone being full; the least row (of places) of these.");
        x.trail(1, 1);
        Check.dueText("1 place", moves(x), "1");
        x.trail(2, 2);
        Check.dueText("2 places", moves(x), "1 2 1");
        x.trail(4, 3);
        Check.dueText("4 places", moves(x), "1 2 1 3 4 3 1 2 1");
        Check.due("trail(8, 4)", x.trail(8, 4), 25);
        Doc.promise(28, "FEWEST MOVES of n places with k at once (1 .. 12): how many;");
        Check.due("trail(1, 1)", x.trail(1, 1), 1);
        Check.due("trail(12, 12)", x.trail(12, 12), 23);
        Check.due("trail(12, 1)", x.trail(12, 1), NONE);
        Check.due("trail(1, 12)", x.trail(1, 12), 1);
        Doc.promise(28, "NONE: it can't be;");
        Check.due("trail(2, 1)", x.trail(2, 1), NONE);
        Check.due("trail(2, 2)", x.trail(2, 2), 3);
        Check.due("trail(3, 2)", x.trail(3, 2), NONE);
        Check.due("trail(3, 3)", x.trail(3, 3), 5);
        Check.due("trail(12, 4)", x.trail(12, 4), NONE);
        Check.due("trail(12, 5) can be", x.trail(12, 5) > 23 ? 1 : 0, 1);
        Doc.promise(28, "RANGE.");
        int[] none = {0, -1, 13, 14, WILD[0], WILD[1]};
        for (int n : none) {
            Check.due("trail(" + n + ", 1)", x.trail(n, 1), RANGE);
            Check.due("trail(1, " + n + ")", x.trail(1, n), RANGE);
            Check.due("trail(" + n + ", " + n + ")", x.trail(n, n), RANGE);
        }
    }

    private static void moveCall() {
        Doc.promise(29, "The i-th MOVE of the latest trail() that told a number: the place;");
        MarbleFloor x = new MarbleFloor();
        x.trail(3, 3);
        Check.dueText("moves", moves(x), "1 2 3 2 1");
        x.trail(3, 2);
        Check.dueText("behind NONE", moves(x), "1 2 3 2 1");
        x.trail(13, 1);
        x.trail(1, 0);
        Check.dueText("behind RANGE", moves(x), "1 2 3 2 1");
        x.trail(2, 2);
        Check.dueText("behind another", moves(x), "1 2 1");
        Doc.promise(29, "NONE.");
        Check.due("move(2)", x.move(2), 1);
        Check.due("move(3)", x.move(3), NONE);
        Check.due("move(4)", x.move(4), NONE);
        Check.due("move(-1)", x.move(-1), NONE);
        for (int wild : WILD) {
            Check.due("move(" + wild + ")", x.move(wild), NONE);
        }
        x = new MarbleFloor();
        Check.due("move(0) ahead of any", x.move(0), NONE);
        x.trail(2, 1);
        Check.due("move(0) behind NONE alone", x.move(0), NONE);
        x.trail(0, 1);
        Check.due("move(0) behind RANGE alone", x.move(0), NONE);
    }

    private static void watchCall() {
        Doc.terms("CRACKED: one STEP of a FLOOR does nothing (or none is cracked).");
        MarbleFloor x = watching("lanes 3; turn 0; turn 1 if 0; turn 2 if 1;", 3);
        int[] outs = {0, 1, 3, 7};
        long[] fits = {1, 2, 4, UNCRACKED};
        for (int c = 0; c < 4; c++) {
            x.watch(0);
            x.see(0, 0, outs[c]);
            Check.due("fit", x.fit(0), fits[c]);
        }
        Doc.promise(30, "A FLOOR that may be CRACKED is watched, as it is now: how many STEPS;");
        Check.due("a FLOOR without STEPS", x.watch(5), 0);
        Check.floor(x, 5, "lanes 8;" + "turn 0;".repeat(40));
        Check.due("a FLOOR with 40", x.watch(5), 40);
        Check.due("all may be", x.fit(0), (1L << 41) - 1);
        Check.floor(x, 5, "lanes 1;");
        Check.due("another FLOOR 5 changes nothing", x.fit(0), (1L << 41) - 1);
        Check.due("its ROWS are as they were", x.see(0, 255, 255), 0);
        Check.due("none is cracked", x.fit(0), UNCRACKED);
        Doc.promise(30, "RANGE.");
        int[] none = {-1, 6, 7, WILD[0], WILD[1]};
        for (int f : none) {
            Check.due("watch(" + f + ")", x.watch(f), RANGE);
        }
        Check.due("nothing is changed", x.fit(0), UNCRACKED);
        Check.due("nothing is changed", x.count(6), 1);
        x = new MarbleFloor();
        x.watch(6);
        Check.due("none is watched yet", x.look(), STATE);
        Doc.promise(30, "(SEEN are none then, STEPS of telling begin at 0.)");
        x = watching("lanes 2; turn 0;", 1);
        x.see(999, 0, 0);
        x.right(999, 0, 1);
        Check.due("see(998, ..)", x.see(998, 0, 0), RANGE);
        x.watch(0);
        Check.due("SEEN", x.count(6), 0);
        Check.due("puttings RIGHT", x.count(7), 0);
        Check.due("fit(999)", x.fit(999), UNCRACKED | 1);
        Check.due("right of none", x.right(0, 0, 0), RANGE);
        Check.due("see(0, ..)", x.see(0, 0, 0), 0);
    }

    private static MarbleFloor watching(String text, int steps) {
        MarbleFloor x = new MarbleFloor();
        Check.floor(x, 0, text);
        Check.due("watch", x.watch(0), steps);
        return x;
    }

    private static void seeCall() {
        Doc.terms("SEEN, at most 20, numbered from 0: a ROW in, a ROW out,");
        Doc.promise(31, "SEEN at a STEP of telling: its number;");
        MarbleFloor x = watching("lanes 8; turn 7;", 1);
        for (int n = 0; n < 20; n++) {
            Check.due("see", x.see(n, n, n), n);
        }
        Check.due("the 21st", x.see(20, 0, 0), FULL);
        Doc.promise(31, "RANGE: no such STEP, ROWS;");
        for (int lanes = 1; lanes <= 8; lanes++) {
            x = watching("lanes " + lanes + ";", 0);
            int last = (1 << lanes) - 1;
            int[] none = {-1, last + 1, 256, WILD[0], WILD[1]};
            for (int row : none) {
                Check.due("see(0, " + row + ", 0)", x.see(0, row, 0), RANGE);
                Check.due("see(0, 0, " + row + ")", x.see(0, 0, row), RANGE);
            }
            Check.due("the last ROW", x.see(0, last, last), 0);
        }
        int[] noSteps = {-1, 1000, 1001, WILD[0], WILD[1]};
        for (int told : noSteps) {
            Check.due("see(" + told + ", 0, 0)", x.see(told, 0, 0), RANGE);
            Check.due("see(" + told + ", 0, 0) of a new one", new MarbleFloor().see(told, 0, 0), RANGE);
        }
        Check.due("see(999, 0, 0)", x.see(999, 0, 0), 1);
        Doc.promise(31, "STATE: none is watched;");
        x = new MarbleFloor();
        Check.due("see(0, 0, 0)", x.see(0, 0, 0), STATE);
        Check.due("see(999, 255, 255)", x.see(999, 255, 255), STATE);
        Check.due("see(0, 256, 0)", x.see(0, 256, 0), RANGE);
        Check.due("see(0, 0, 256)", x.see(0, 0, 256), RANGE);
        Check.due("see(0, -1, 0)", x.see(0, -1, 0), RANGE);
        Check.due("see(0, 0, -1)", x.see(0, 0, -1), RANGE);
        Check.due("count(6)", x.count(6), 0);
        x.watch(0);
        Check.due("see(0, 0, 0)", x.see(0, 0, 0), 0);
        Doc.promise(31, "FULL.");
        for (int n = 1; n < 20; n++) {
            Check.due("see", x.see(0, 1, 1), n);
        }
        Check.due("the 21st", x.see(0, 1, 1), FULL);
        Check.due("count(6)", x.count(6), 20);
        Check.due("RANGE ahead of FULL", x.see(0, 2, 1), RANGE);
        Check.due("FULL with a later STEP", x.see(900, 1, 1), FULL);
        Check.due("is not told", x.right(0, 0, 0), 1);
    }

    private static void tellings() {
        Doc.terms("told at a STEP of telling (0 .. 999, never falling),");
        MarbleFloor x = watching("lanes 1; turn 0;", 1);
        Check.due("see(0, ..)", x.see(0, 0, 1), 0);
        Check.due("see(0, ..) again", x.see(0, 0, 1), 1);
        Check.due("see(5, ..)", x.see(5, 0, 1), 2);
        Check.due("see(4, ..)", x.see(4, 0, 1), RANGE);
        Check.due("right(4, ..)", x.right(4, 0, 1), RANGE);
        Check.due("right(5, ..)", x.right(5, 0, 1), 1);
        Check.due("right(6, ..)", x.right(6, 0, 1), 2);
        Check.due("see(5, ..)", x.see(5, 0, 1), RANGE);
        Check.due("see(6, ..)", x.see(6, 0, 1), 3);
        Check.due("RANGE tells nothing", x.see(999, 2, 0), RANGE);
        Check.due("RANGE tells nothing", x.right(999, 4, 0), RANGE);
        Check.due("see(6, ..)", x.see(6, 0, 1), 4);
        Check.due("see(999, ..)", x.see(999, 0, 1), 5);
        Check.due("see(1000, ..)", x.see(1000, 0, 1), RANGE);
        Check.due("right(1000, ..)", x.right(1000, 0, 1), RANGE);
        Check.due("see(998, ..)", x.see(998, 0, 1), RANGE);
        Check.due("right(999, ..)", x.right(999, 5, 1), 1);
    }

    private static void rightCall() {
        Doc.terms("perhaps put RIGHT (another out) later.");
        MarbleFloor x = watching("lanes 2; turn 0; turn 1;", 2);
        x.see(3, 0, 1);
        Check.due("fit(3)", x.fit(3), 2);
        x.right(7, 0, 2);
        Check.due("fit(6)", x.fit(6), 2);
        Check.due("fit(7)", x.fit(7), 1);
        x.right(7, 0, 3);
        Check.due("fit(7)", x.fit(7), UNCRACKED);
        Doc.promise(32, "One that was SEEN is put RIGHT at a STEP of telling: how often it was;");
        x = watching("lanes 2;", 0);
        for (int n = 0; n < 4; n++) {
            x.see(0, n, n);
        }
        for (int n = 1; n <= 3; n++) {
            Check.due("the first one", x.right(0, 0, n), n);
            Check.due("the last one", x.right(0, 3, n), n);
        }
        Doc.promise(32, "RANGE;");
        int[] none = {-1, 4, 5, 20, WILD[0], WILD[1]};
        for (int n : none) {
            Check.due("right(0, " + n + ", 0)", x.right(0, n, 0), RANGE);
            Check.due("right(0, 0, " + n + ")", x.right(0, 0, n), RANGE);
        }
        int[] noSteps = {-1, 1000, WILD[0], WILD[1]};
        for (int told : noSteps) {
            Check.due("right(" + told + ", 0, 0)", x.right(told, 0, 0), RANGE);
        }
        Check.due("right of none that is watched", new MarbleFloor().right(0, 0, 0), RANGE);
        Check.due("count(7)", x.count(7), 6);
        Doc.promise(32, "FULL: the 21st in all.");
        for (int n = 7; n <= 20; n++) {
            Check.due("right", x.right(0, 1, 0), n - 6);
        }
        Check.due("the 21st of one", x.right(0, 1, 0), FULL);
        Check.due("the 21st of another", x.right(0, 2, 0), FULL);
        Check.due("RANGE ahead of FULL", x.right(0, 4, 0), RANGE);
        Check.due("count(7)", x.count(7), 20);
        Check.due("see goes on", x.see(0, 0, 0), 4);
        Check.due("FULL is not told", x.right(50, 0, 0), FULL);
        Check.due("see(0, ..)", x.see(0, 0, 0), 5);
    }

    private static void fitCall() {
        Doc.terms("FIT as known: the STEPS that may be cracked, as bits, and bit 40: that none is.");
        for (int steps = 0; steps <= 40; steps++) {
            MarbleFloor x = watching("lanes 2;" + "turn 1;".repeat(steps), steps);
            Check.due("nothing is SEEN", x.fit(0), UNCRACKED | (1L << steps) - 1);
            int out = steps % 2 == 0 ? 0 : 2;
            x.see(0, 0, out);
            Check.due("none is cracked", x.fit(0), UNCRACKED);
            x.right(1, 0, out ^ 2);
            Check.due("one is cracked", x.fit(1), (1L << steps) - 1);
            x.right(2, 0, 1);
            Check.due("nothing fits", x.fit(2), 0);
        }
        MarbleFloor x = watching("lanes 2; turn 0 if 1;", 1);
        x.see(0, 0, 0);
        Check.due("a STEP that isn't felt may be cracked", x.fit(0), UNCRACKED | 1);
        x.see(0, 2, 3);
        Check.due("and is not", x.fit(0), UNCRACKED);
        Doc.promise(33, "FIT as known at a STEP of telling;");
        Check.due("fit(0)", x.fit(0), UNCRACKED);
        Check.due("fit(999)", x.fit(999), UNCRACKED);
        Doc.promise(33, "RANGE (-2);");
        int[] none = {-1, 1000, 1001, WILD[0], WILD[1]};
        for (int told : none) {
            Check.due("fit(" + told + ")", x.fit(told), -2);
            Check.due("fit(" + told + ") of a new one", new MarbleFloor().fit(told), -2);
        }
        Doc.promise(33, "STATE (-4): none is watched.");
        Check.due("fit(0) of a new one", new MarbleFloor().fit(0), -4);
        Check.due("fit(999) of a new one", new MarbleFloor().fit(999), -4);
    }

    private static void known() {
        Check.within("what is known at each STEP of telling");
        MarbleFloor x = watching("lanes 3; turn 0; turn 1; turn 2;", 3);
        x.see(2, 0, 6);
        x.see(4, 0, 5);
        x.right(6, 1, 6);
        x.right(6, 0, 7);
        x.right(8, 1, 7);
        long[] due = {UNCRACKED | 7, UNCRACKED | 7, 1, 1, 0, 0, 0, 0, UNCRACKED, UNCRACKED};
        for (int told = 0; told < due.length; told++) {
            Check.due("fit(" + told + ")", x.fit(told), due[told]);
        }
        Check.due("fit(999)", x.fit(999), UNCRACKED);
        x.see(999, 0, 6);
        Check.due("fit(998)", x.fit(998), UNCRACKED);
        Check.due("fit(999)", x.fit(999), 0);
    }

    private static void lookCall() {
        Doc.terms("LOOK: the ROW in for which the greatest heap of FIT (all that is known) with one ROW out is least;");
        Doc.promise(34, "LOOK: the ROW in;");
        MarbleFloor x = watching("lanes 3; turn 0 if 1; turn 0 if 1 if 2;", 2);
        // ROW 0: one heap of three; ROW 2: two and one; ROW 6: none, the first, the second: two and one, too.
        Check.due("look", x.look(), 2);
        x = watching("lanes 3; turn 0 if 2; turn 1 if 2;", 2);
        Check.due("three heaps", x.look(), 4);
        x = watching("lanes 8; turn 0 if 1 if 2 if 3 if 4 if 5 if 6 if 7;", 1);
        Check.due("nearly the last ROW", x.look(), 254);
        x = watching("lanes 2; turn 0; turn 0 if 1;", 2);
        x.see(500, 0, 1);
        Check.due("look goes by all that is known", x.fit(499), UNCRACKED | 3);
        Check.due("look", x.look(), 2);
        x.see(999, 2, 2);
        Check.due("what is told last counts", x.look(), NONE);
        Doc.terms("then the least;");
        x = watching("lanes 3; turn 2;", 1);
        Check.due("all ROWS part them", x.look(), 0);
        x = watching("lanes 3; turn 2 if 0;", 1);
        Check.due("half the ROWS part them", x.look(), 1);
        Doc.terms("none if none parts them.");
        Doc.promise(34, "NONE;");
        x = watching("lanes 3;", 0);
        Check.due("none may be cracked", x.look(), NONE);
        x = watching("lanes 3; turn 1; turn 1;", 2);
        Check.due("none or one", x.look(), 0);
        x.see(0, 0, 2);
        Check.due("two that are alike", x.fit(0), 3);
        Check.due("none parts them", x.look(), NONE);
        x.see(0, 0, 0);
        Check.due("nothing fits", x.fit(0), 0);
        Check.due("nothing is to be parted", x.look(), NONE);
        Doc.promise(34, "STATE.");
        x = new MarbleFloor();
        Check.due("look of a new one", x.look(), STATE);
        x.watch(-1);
        Check.due("look behind RANGE alone", x.look(), STATE);
        x.watch(0);
        Check.due("look", x.look(), NONE);
    }
}
