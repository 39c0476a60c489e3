/** The edges that the document names of VALUES and of runs, forth and back. */
final class ProgramEdges {
    private static final int NONE = MarbleFloor.NONE;
    private static final int RANGE = MarbleFloor.RANGE;
    private static final int NO_VALUE = -2000000000;
    private static final int LEAST = Integer.MIN_VALUE;
    private static final int GREATEST = Integer.MAX_VALUE;
    // The letters' numbers, as let() and value() have them.
    private static final int A = 0;
    private static final int B = 1;
    private static final int C = 2;
    private static final int D = 3;

    private ProgramEdges() {
    }

    static void all() {
        letAndValue();
        wrapping();
        stepsDone();
        signs();
        forks();
        loops();
        undone();
        counted();
        unmetTests();
        placesOfZ();
        tooLong();
        tooDeep();
        longAheadOfDeep();
        runCall();
        troubleCall();
        manyTexts();
        behindSpoiltTexts();
    }

    private static MarbleFloor with(String text) {
        MarbleFloor x = new MarbleFloor();
        Check.due(text, Check.program(x, text) < 0 ? 0 : 1, 1);
        return x;
    }

    /** A run of proc 0 and what trouble() tells of it. */
    private static void run(MarbleFloor x, boolean back, int trouble, int counted) {
        Check.due("run(0, " + back + ")", x.run(0, back), trouble == 0 ? counted : NONE);
        Check.due("trouble(0)", x.trouble(0), trouble);
        Check.due("trouble(1)", x.trouble(1), counted);
    }

    private static void letAndValue() {
        Doc.promise(17, "A VALUE, 0 .. 7: a .. h, 10 .. 19: z, is told: what it was;");
        MarbleFloor x = new MarbleFloor();
        for (int v = 0; v <= 19; v++) {
            if (v <= 7 || v >= 10) {
                Check.due("let(" + v + ", 1)", x.let(v, 1), 0);
                Check.due("let again", x.let(v, LEAST), 1);
                Check.due("let again", x.let(v, GREATEST), LEAST);
                Check.due("let again", x.let(v, 500 + v), GREATEST);
            }
        }
        for (int v = 0; v <= 7; v++) {
            Check.program(x, "proc aa is swap " + (char) ('a' + v) + " z[0]; end;");
            x.run(0, false);
            Check.due("it is that letter's", x.value(10), 500 + v);
            x.run(0, true);
        }
        for (int place = 0; place <= 9; place++) {
            Check.program(x, "proc aa is swap z[" + place + "] a; end;");
            x.run(0, false);
            Check.due("it is that place's", x.value(A), 510 + place);
            x.run(0, true);
        }
        Doc.promise(17, "RANGE (-2000000000).");
        int[] none = {-1, 8, 9, 20, 21, LEAST, GREATEST};
        for (int v : none) {
            Check.due("let(" + v + ", 7)", x.let(v, 7), NO_VALUE);
        }
        Doc.promise(18, "A VALUE;");
        for (int v = 0; v <= 19; v++) {
            if (v <= 7 || v >= 10) {
                Check.due("value(" + v + ")", x.value(v), 500 + v);
            }
        }
        x.let(7, NO_VALUE);
        Check.due("a VALUE that looks like RANGE", x.value(7), NO_VALUE);
        Check.due("and is told", x.let(7, 3), NO_VALUE);
        Doc.promise(18, "RANGE (-2000000000).");
        for (int v : none) {
            Check.due("value(" + v + ")", x.value(v), NO_VALUE);
        }
    }

    private static void change(int from, String step, int by, int want) {
        MarbleFloor x = with("proc aa is " + step + " a b; end;");
        x.let(A, from);
        x.let(B, by);
        run(x, false, 0, 1);
        Check.due(from + " " + step + " " + by, x.value(A), want);
        run(x, true, 0, 1);
        Check.due("undone", x.value(A), from);
    }

    private static void wrapping() {
        Doc.terms("III. VALUES of a .. h, z[0] .. z[9]: ints (they wrap), 0 at first.");
        change(GREATEST, "add", 1, LEAST);
        change(LEAST, "sub", 1, GREATEST);
        change(LEAST, "add", -1, GREATEST);
        change(LEAST, "add", LEAST, 0);
        change(0, "sub", LEAST, LEAST);
        change(-1, "sub", LEAST, GREATEST);
        change(GREATEST, "xor", -1, LEAST);
        MarbleFloor x = with("proc aa is swap z[0] a; swap z[9] h; end;");
        run(x, false, 0, 2);
        for (int v = 0; v <= 19; v++) {
            Check.due("value(" + v + ")", x.value(v), v == 8 || v == 9 ? NO_VALUE : 0);
        }
    }

    private static void stepsDone() {
        Doc.terms("A PROGRAM's proc DONE: STEPS in order; add, sub, xor: VAR grows, falls, is turned bit by bit by SUM;");
        change(5, "add", 3, 8);
        change(5, "sub", 3, 2);
        change(5, "xor", 3, 6);
        change(5, "add", -3, 2);
        change(5, "sub", 7, -2);
        change(5, "xor", -3, -8);
        change(5, "add", 0, 5);
        MarbleFloor x = with("proc aa is add a 1; add b a; add a b; xor c a; end;");
        run(x, false, 0, 4);
        Check.due("in order", x.value(A), 2);
        Check.due("in order", x.value(B), 1);
        Check.due("in order", x.value(C), 2);
    }

    private static void sum(int b, String sum, int c, int want) {
        MarbleFloor x = with("proc aa is add a " + sum + "; end;");
        x.let(B, b);
        x.let(C, c);
        run(x, false, 0, 1);
        Check.due(b + " " + sum + " " + c, x.value(A), want);
    }

    private static void signs() {
        Doc.terms("/ cuts towards 0, % is what is left, both 0 by 0;");
        int[][] parts = {{7, 2, 3, 1}, {-7, 2, -3, -1}, {7, -2, -3, 1}, {-7, -2, 3, -1}, {1, 2, 0, 1}, {-1, 2, 0, -1},
            {7, 0, 0, 0}, {-7, 0, 0, 0}, {0, 0, 0, 0}, {0, 5, 0, 0}, {LEAST, 0, 0, 0}, {LEAST, -1, LEAST, 0}, {LEAST, 1, LEAST, 0},
            {GREATEST, -1, -GREATEST, 0}, {LEAST, GREATEST, -1, -1}, {GREATEST, LEAST, 0, GREATEST}, {LEAST, LEAST, 1, 0}};
        for (int[] p : parts) {
            sum(p[0], "b/c", p[1], p[2]);
            sum(p[0], "b%c", p[1], p[3]);
        }
        sum(9, "b/c+4", 0, 4);
        sum(9, "b%c+4", 0, 4);
        Doc.terms("& bit by bit.");
        int[][] both = {{12, 10, 8}, {-1, 77, 77}, {LEAST, GREATEST, 0}, {LEAST, -1, LEAST}, {0, -1, 0}};
        for (int[] p : both) {
            sum(p[0], "b&c", p[1], p[2]);
        }
        sum(LEAST, "b-c", 1, GREATEST);
        sum(GREATEST, "b+c", 1, LEAST);
        sum(LEAST, "b*c", -1, LEAST);
        sum(65536, "b*c", 65536, 0);
        sum(46341, "b*c", 46341, 46341 * 46341);
    }

    private static boolean holds(int b, char sign, int c) {
        MarbleFloor x = with("proc aa is if b" + sign + "c then add a 1; else add a 2; fi a=1; end;");
        x.let(B, b);
        x.let(C, c);
        run(x, false, 0, 2);
        return x.value(A) == 1;
    }

    private static void forks() {
        int[][] pairs = {{1, 1}, {1, 2}, {2, 1}, {-1, 1}, {1, -1}, {LEAST, GREATEST}, {GREATEST, LEAST}, {LEAST, LEAST}, {0, LEAST}};
        for (int[] p : pairs) {
            Check.within("the TEST of " + p[0] + " and " + p[1]);
            Check.due("=", holds(p[0], '=', p[1]) ? 1 : 0, p[0] == p[1] ? 1 : 0);
            Check.due("<", holds(p[0], '<', p[1]) ? 1 : 0, p[0] < p[1] ? 1 : 0);
            Check.due(">", holds(p[0], '>', p[1]) ? 1 : 0, p[0] > p[1] ? 1 : 0);
            Check.due("!", holds(p[0], '!', p[1]) ? 1 : 0, p[0] != p[1] ? 1 : 0);
        }
        Doc.terms("if: the TEST ahead tells which BODY; behind it the TEST behind fi must hold just if the first BODY was done.");
        for (int ahead = 0; ahead < 2; ahead++) {
            for (int behind = 0; behind < 2; behind++) {
                MarbleFloor x = with("proc aa is if b=1 then add a 1; else add a 2; add d 1; fi c=1; end;");
                x.let(B, ahead);
                x.let(C, behind);
                int many = ahead == 1 ? 2 : 3;
                run(x, false, ahead == behind ? 0 : 1, many);
                Check.due("which BODY", x.value(A), ahead != behind ? 0 : ahead == 1 ? 1 : 2);
                x.let(A, 7);
                run(x, true, ahead == behind ? 0 : 1, behind == 1 ? 2 : 3);
                Check.due("which BODY, undone", x.value(A), ahead != behind ? 7 : ahead == 1 ? 6 : 5);
            }
        }
    }

    private static void loops() {
        Doc.terms("from: its TEST must hold; then the BODY behind do; then, if the TEST behind until holds, it is over;");
        MarbleFloor x = with("proc aa is from b=0 do add a 1; loop add c 1; until d=0; end;");
        run(x, false, 0, 2);
        Check.due("do once", x.value(A), 1);
        Check.due("loop never", x.value(C), 0);
        x.let(B, 1);
        run(x, false, 1, 1);
        Check.due("not begun", x.value(A), 1);
        Doc.terms("else the BODY behind loop, and the TEST behind from must not hold; then the BODY behind do again, and so on.");
        x = with("proc aa is from a=0 do add a 1; loop add c 1; until a=3; end;");
        run(x, false, 0, 1 + 3 + 2 + 2);
        Check.due("do three times", x.value(A), 3);
        Check.due("loop twice", x.value(C), 2);
        x = with("proc aa is from a=0 do add b 1; loop add c 1; until b=3; end;");
        run(x, false, 1, 1 + 1 + 2);
        Check.due("VALUES as ahead", x.value(B) + x.value(C), 0);
        x = with("proc aa is from a=0 do add b 1; loop add a 1; until b=3; end;");
        run(x, false, 0, 1 + 3 + 2 + 2);
        x = with("proc aa is from b<2 do add b 1; loop add a 1; until b=3; end;");
        run(x, false, 1, 1 + 1 + 2);
    }

    private static void undone() {
        Doc.terms("UNDONE: the undoing of the STEPS, the last first: add as sub, sub as add, xor, swap alike;");
        MarbleFloor x = with("proc aa is add a 1; sub b a; xor c b; swap a c; add d a; end;");
        x.let(A, 4);
        x.let(C, 9);
        run(x, false, 0, 5);
        run(x, true, 0, 5);
        int[] due = {4, 0, 9, 0};
        for (int v = 0; v < 4; v++) {
            Check.due("value(" + v + ")", x.value(v), due[v]);
        }
        run(x, true, 0, 5);
        run(x, false, 0, 5);
        for (int v = 0; v < 4; v++) {
            Check.due("value(" + v + ")", x.value(v), due[v]);
        }
        Doc.terms("if by the TEST behind fi, which must be right by the one ahead;");
        x = with("proc aa is if a=0 then add b 1; else add b 2; fi c=0; end;");
        x.let(B, 10);
        run(x, true, 0, 2);
        Check.due("the first BODY", x.value(B), 9);
        x.let(C, 1);
        run(x, true, 1, 2);
        x.let(A, 1);
        run(x, true, 0, 2);
        Check.due("the second BODY", x.value(B), 7);
        x.let(C, 0);
        run(x, true, 1, 2);
        Check.due("VALUES as ahead", x.value(B), 7);
        Doc.terms("from by the TEST behind until, likewise;");
        x = with("proc aa is from a=0 do add a 1; loop add c a; until a=3; end;");
        x.let(A, 3);
        x.let(C, 3);
        run(x, true, 0, 1 + 3 + 2 + 2);
        Check.due("undone", x.value(A), 0);
        Check.due("undone", x.value(C), 0);
        run(x, true, 1, 1);
        x = with("proc aa is from a=1 do loop until b=0; end;");
        run(x, true, 1, 2);
        x.let(A, 1);
        run(x, true, 0, 1);
        x.let(B, 1);
        run(x, true, 1, 1);
        Doc.terms("call as uncall, uncall as call.");
        x = with("proc aa is call bb; uncall cc; end; proc bb is add a 1; add b a; end; proc cc is add c 5; add d c; end;");
        x.let(C, 5);
        x.let(D, 5);
        run(x, false, 0, 6);
        int[] behind = {1, 1, 0, 0};
        int[] ahead = {0, 0, 5, 5};
        for (int v = 0; v < 4; v++) {
            Check.due("DONE", x.value(v), behind[v]);
        }
        run(x, true, 0, 6);
        for (int v = 0; v < 4; v++) {
            Check.due("UNDONE", x.value(v), ahead[v]);
        }
        x = with("proc aa is uncall bb; end; proc bb is uncall cc; end; proc cc is add a 1; end;");
        run(x, false, 0, 3);
        Check.due("uncall within uncall", x.value(A), 1);
        run(x, true, 0, 3);
        Check.due("undone", x.value(A), 0);
    }

    private static void counts(String body, int want) {
        MarbleFloor x = with("proc aa is " + body + " end; proc bb is end;");
        run(x, false, 0, want);
        run(x, true, 0, want);
    }

    private static void counted() {
        Doc.terms("Each STEP counts 1 as it begins (if, from, call, too), and 1 more as a BODY behind loop begins.");
        counts("", 0);
        counts("add a 0;", 1);
        counts("sub a 0; xor a 0; swap a b;", 3);
        counts("if 1=1 then else fi 1=1;", 1);
        counts("if 1=1 then add a 0; else fi 1=1;", 2);
        counts("from 1=1 do loop until 1=1;", 1);
        counts("from 1=1 do add a 0; loop until 1=1;", 2);
        counts("call bb;", 1);
        counts("uncall bb;", 1);
        counts("if 1=1 then from 1=1 do call bb; loop until 1=1; else fi 1=1;", 3);
        MarbleFloor x = with("proc aa is from a=0 do add a 1; loop until a=2; end;");
        run(x, false, 0, 4);
        run(x, true, 0, 4);
        x = with("proc aa is from a=0 do loop add a 1; until a=2; end;");
        run(x, false, 0, 5);
        run(x, true, 0, 5);
    }

    private static void unmetTests() {
        Doc.terms("TROUBLE ends a run at once (then all VALUES are as ahead of it):");
        MarbleFloor x = with("proc aa is add a 1; swap b z[3]; sub z[9] 4; if c=0 then add c 1; else fi c=0; add a 1; end;");
        x.let(B, 8);
        run(x, false, 1, 5);
        Check.due("a", x.value(A), 0);
        Check.due("b", x.value(B), 8);
        Check.due("c", x.value(C), 0);
        Check.due("z[3]", x.value(13), 0);
        Check.due("z[9]", x.value(19), 0);
        x = with("proc aa is call bb; add d 1; end; proc bb is add a 1; from a=0 do loop until 1=1; end;");
        run(x, false, 1, 3);
        Check.due("within a call", x.value(A), 0);
        Doc.terms("1 a TEST that should hold doesn't, or should not and does;");
        x = with("proc aa is if b=1 then else fi c=1; end;");
        x.let(B, 1);
        run(x, false, 1, 1);
        x.let(C, 1);
        run(x, false, 0, 1);
        x.let(B, 0);
        run(x, false, 1, 1);
        x = with("proc aa is from b=0 do loop until c=0; end;");
        run(x, false, 0, 1);
        x.let(B, 1);
        run(x, false, 1, 1);
        x.let(B, 0);
        x.let(C, 1);
        run(x, false, 1, 2);
    }

    private static void placesOfZ() {
        Doc.terms("2 a place of z that isn't 0 .. 9;");
        String[] steps = {"add z[a] 1;", "sub z[a] 1;", "xor z[a] 1;", "swap z[a] b;", "swap b z[a];", "add b z[a];",
            "add b 0*z[a];", "add z[a] a;", "if z[a]=0 then else fi 1=1;", "if 0=z[a] then else fi 1=1;", "from z[a]=0 do loop until 1=1;"};
        for (String step : steps) {
            MarbleFloor x = with("proc aa is " + step + " end;");
            for (int place = 0; place <= 9; place++) {
                x = with("proc aa is " + step + " end;");
                x.let(A, place);
                run(x, false, 0, 1);
                run(x, true, 0, 1);
            }
            int[] none = {-1, 10, 11, LEAST, GREATEST, 4096, -4096};
            for (int place : none) {
                x.let(A, place);
                run(x, false, 2, 1);
                run(x, true, 2, 1);
                Check.due("VALUES as ahead", x.value(A), place);
            }
        }
        MarbleFloor x = with("proc aa is if 1=1 then add c 1; else fi z[a]=0; end;");
        x.let(A, 10);
        run(x, false, 2, 2);
        run(x, true, 2, 1);
        x = with("proc aa is from 1=1 do add c 1; loop until z[a]=0; end;");
        x.let(A, -1);
        run(x, false, 2, 2);
        run(x, true, 2, 1);
        Check.due("VALUES as ahead", x.value(C), 0);
        x = with("proc aa is if 1=2 then add d z[a]; else fi 1=2; end;");
        x.let(A, 10);
        run(x, false, 0, 1);
    }

    private static void tooLong() {
        Doc.terms("3 the count comes above 5000;");
        MarbleFloor x = with("proc aa is from a=0 do add a 1; loop until a=b; end; proc bb is from a=0 do loop add a 1; until a=b; end;"
            + " proc cc is add c 1; call aa; end; proc dd is call aa; add c 1; end;");
        x.let(B, 2500);
        run(x, false, 0, 5000);
        run(x, true, 0, 5000);
        x.let(B, 2501);
        run(x, false, 3, 5001);
        Check.due("VALUES as ahead", x.value(A), 0);
        x.let(A, 2501);
        run(x, true, 3, 5001);
        Check.due("VALUES as ahead", x.value(A), 2501);
        x.let(A, 0);
        x.let(B, 2499);
        Check.due("call and 4998 and one more", x.run(2, false), 5000);
        Check.due("undone", x.run(2, true), 5000);
        x.let(B, 2500);
        Check.due("call and 5000 and one more", x.run(2, false), NONE);
        Check.due("trouble(0)", x.trouble(0), 3);
        Check.due("trouble(1)", x.trouble(1), 5001);
        Check.due("VALUES as ahead", x.value(C), 0);
        x.let(B, 2499);
        Check.due("a last STEP", x.run(3, false), 5000);
        x.let(A, 0);
        Check.program(x, "proc aa is from a=0 do add a 1; loop until a=b; add c 1; end;");
        x.let(B, 2500);
        run(x, false, 3, 5001);
        Check.due("the last STEP was not done", x.value(C), 1);
        Check.program(x, "proc aa is call bb; from a=0 do loop add a 1; until a=b; end; proc bb is end;");
        x.let(B, 2499);
        run(x, false, 0, 5000);
        x.let(A, 0);
        x.let(B, 2500);
        run(x, false, 3, 5001);
        Check.program(x, "proc aa is from b=0 do loop until b=1; end; proc bb is from a=0 do xor a 0; loop xor b 1; until 1=2; end;");
        x.let(B, 5);
        Check.due("a TEST's TROUBLE ahead of it", x.run(0, false), NONE);
        Check.due("trouble(0)", x.trouble(0), 1);
    }

    private static void tooDeep() {
        Doc.terms("4 a call within 20 calls");
        MarbleFloor x = with("proc aa is if d=0 then else sub d 1; call aa; add d 1; fi d=0; end;");
        for (int deep = 0; deep <= 22; deep++) {
            x.let(D, deep);
            run(x, false, deep <= 20 ? 0 : 4, deep <= 20 ? 4 * deep + 1 : 63);
            Check.due("VALUES as ahead", x.value(D), deep);
            run(x, true, deep <= 20 ? 0 : 4, deep <= 20 ? 4 * deep + 1 : 63);
            Check.due("VALUES as ahead", x.value(D), deep);
        }
        x = with("proc aa is call aa; end;");
        run(x, false, 4, 21);
        run(x, true, 4, 21);
        x = with("proc aa is uncall aa; end;");
        run(x, false, 4, 21);
        x = with("proc aa is call bb; end; proc bb is uncall aa; end;");
        run(x, true, 4, 21);
        x = with("proc aa is " + "call bb;".repeat(40) + " end; proc bb is end;");
        run(x, false, 0, 40);
    }

    private static void longAheadOfDeep() {
        Doc.terms("(asked behind the count).");
        String deep = "proc aa is if d=20 then from a=0 do add a 1; loop until a=b; %s call aa; else add d 1; call aa; fi 1=1; end;";
        MarbleFloor x = with(String.format(deep, ""));
        x.let(B, 2469);
        run(x, false, 4, 5000);
        x.let(B, 2470);
        run(x, false, 3, 5001);
        x = with(String.format(deep, "add c 1;"));
        x.let(B, 2469);
        run(x, false, 3, 5001);
        x.let(B, 2468);
        run(x, false, 4, 4999);
        x = with("proc aa is from a=0 do add a 1; loop until a=b; add c z[e]; end;");
        x.let(4, 10);
        x.let(B, 2500);
        run(x, false, 3, 5001);
        x.let(B, 2499);
        run(x, false, 2, 4999);
    }

    private static void runCall() {
        Doc.promise(19, "Proc p (0 .. as told) is DONE, or UNDONE: how many STEPS it counted;");
        StringBuilder text = new StringBuilder();
        for (int p = 0; p < 6; p++) {
            text.append("proc p").append((char) ('a' + p)).append(" is ").append("add a 1;".repeat(p)).append(" end;");
        }
        MarbleFloor x = with(text.toString());
        for (int p = 0; p < 6; p++) {
            Check.due("run(" + p + ", false)", x.run(p, false), p);
            Check.due("value(0)", x.value(A), p);
            Check.due("run(" + p + ", true)", x.run(p, true), p);
            Check.due("value(0)", x.value(A), 0);
        }
        Doc.promise(19, "NONE: TROUBLE;");
        Check.program(x, "proc aa is if 1=1 then else fi 1=2; end; proc bb is end;");
        Check.due("run(0, false)", x.run(0, false), NONE);
        Check.due("run(1, false)", x.run(1, false), 0);
        Doc.promise(19, "RANGE: no such proc.");
        int[] none = {-1, 2, 3, 6, LEAST, GREATEST};
        for (int p : none) {
            Check.due("run(" + p + ", false)", x.run(p, false), RANGE);
            Check.due("run(" + p + ", true)", x.run(p, true), RANGE);
        }
        Check.program(x, "");
        Check.due("run(0, false) without procs", x.run(0, false), RANGE);
        Check.due("run(0, true) of a new object", new MarbleFloor().run(0, true), RANGE);
    }

    private static void troubleCall() {
        Doc.promise(20, "Of the latest run() that was not RANGE, what 0: its TROUBLE (0 without, and ahead of any),");
        MarbleFloor x = new MarbleFloor();
        Check.due("trouble(0) ahead of any", x.trouble(0), 0);
        Check.due("run", x.run(0, false), RANGE);
        Check.due("trouble(0) behind RANGE alone", x.trouble(0), 0);
        Check.program(x, "proc aa is add a 1; add b z[a]; end; proc bb is end;");
        x.let(A, 9);
        x.run(0, false);
        Check.due("trouble(0)", x.trouble(0), 2);
        x.run(2, false);
        Check.due("trouble(0) behind RANGE", x.trouble(0), 2);
        Check.program(x, "proc aa is add a 1; end;");
        x.let(A, 3);
        Check.due("trouble(0) behind another PROGRAM", x.trouble(0), 2);
        x.run(0, false);
        Check.due("trouble(0) without", x.trouble(0), 0);
        Doc.promise(20, "1: how many STEPS it counted (5001 at TROUBLE 3).");
        Check.due("trouble(1)", x.trouble(1), 1);
        x.run(1, false);
        Check.due("trouble(1) behind RANGE", x.trouble(1), 1);
        Check.program(x, "proc aa is from b=0 do add b 1; loop until b=0; end;");
        x.run(0, false);
        Check.due("trouble(0)", x.trouble(0), 3);
        Check.due("trouble(1)", x.trouble(1), 5001);
        Doc.promise(20, "NONE for others;");
        int[] others = {-1, 2, 3, LEAST, GREATEST};
        for (int what : others) {
            Check.due("trouble(" + what + ")", x.trouble(what), NONE);
            Check.due("trouble(" + what + ") ahead of any", new MarbleFloor().trouble(what), NONE);
        }
        Doc.promise(20, "0 for what 1 ahead of any.");
        x = new MarbleFloor();
        Check.due("trouble(1) ahead of any", x.trouble(1), 0);
        x.run(0, true);
        Check.due("trouble(1) behind RANGE alone", x.trouble(1), 0);
    }

    /** One object reads texts one behind the other: none leaves anything of it to the next. */
    private static void manyTexts() {
        Check.within("the 40th text is read as the first one");
        MarbleFloor x = new MarbleFloor();
        for (int n = 1; n <= 40; n++) {
            String sum = n + "+1*2-3+(4*(5-6))+7+8+9+10";
            String body = "add a " + sum + "; sub b " + sum + "; if a=" + sum + " then xor c " + sum + "; else fi 1=1; call bb;";
            Check.due("program", Check.program(x, "proc aa is " + body + "end; proc bb is swap a d; end;"), 2);
            x.let(A, 0);
            x.let(B, 0);
            x.let(C, 0);
            x.let(D, 77);
            run(x, false, 0, 6);
            int want = (n + 1) * 2 - 3 - 4 + 7 + 8 + 9 + 10;
            Check.due("a", x.value(A), 77);
            Check.due("b", x.value(B), -want);
            Check.due("c", x.value(C), want);
            Check.due("d", x.value(D), want);
        }
    }

    private static void behindSpoiltTexts() {
        Check.within("a spoilt text leaves nothing to the next one");
        String text = "proc aa is add a 9-(2+(3*z[b]-1)); swap z[c] d; if a<(1+d) then from 1=1 do call bb; loop sub e (7-(1+2));"
            + " until 1=1; else uncall bb; fi a<(1+d); end; proc bb is xor f 5-(1+2); end;";
        MarbleFloor x = new MarbleFloor();
        for (int end = 1; end < text.length() - 1; end++) {
            Check.due("spoilt", Check.program(x, text.substring(0, end) + "?"), NONE);
            Check.due("its PLACE is no later", x.fault(1) <= end ? 1 : 0, 1);
            Check.due("program", Check.program(x, text), 2);
            for (int v = 0; v < 8; v++) {
                x.let(v, 0);
            }
            x.let(10, 4);
            run(x, false, 0, 6);
            int[] due = {9 - (2 + (3 * 4 - 1)), 0, 0, 4, 0, 2};
            for (int v = 0; v < due.length; v++) {
                Check.due("value(" + v + ")", x.value(v), due[v]);
            }
            Check.due("z[0]", x.value(10), 0);
        }
    }
}
