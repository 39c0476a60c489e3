import java.nio.charset.StandardCharsets;

/** The edges that the document names of a new object, THE TAPE and its TOKENS, and of count. */
final class TapeEdges {
    private static final int NONE = MarbleFloor.NONE;
    private static final int RANGE = MarbleFloor.RANGE;
    private static final int FULL = MarbleFloor.FULL;
    private static final String SIGNS = ";=<>!+-*/%&()[]";

    private TapeEdges() {
    }

    static void all() {
        constants();
        aNewObject();
        feed();
        end();
        emptied();
        notEmptied();
        blanks();
        words();
        numbers();
        everyByte();
        counts();
        manyCalls();
    }

    private static void constants() {
        Doc.terms("The constants: `NONE = -1`: There is none.");
        Check.due("NONE", MarbleFloor.NONE, -1);
        Doc.terms("`RANGE = -2`: A number that can't be.");
        Check.due("RANGE", MarbleFloor.RANGE, -2);
        Doc.terms("`FULL = -3`: No room.");
        Check.due("FULL", MarbleFloor.FULL, -3);
        Doc.terms("`STATE = -4`: Not as things are.");
        Check.due("STATE", MarbleFloor.STATE, -4);
    }

    private static void aNewObject() {
        Doc.promise(1, "FLOORS of one lane");
        MarbleFloor x = new MarbleFloor();
        for (int f = 0; f <= 5; f++) {
            Check.due("step(f, 0, 1)", x.step(f, 0, 1), 1);
            Check.due("step(f, 0, 0)", x.step(f, 0, 0), NONE);
            Check.due("out(f, 1, false)", x.out(f, 1, false), 1);
            Check.due("out(f, 2, false)", x.out(f, 2, false), RANGE);
        }
        Check.due("step(6, 0, 1)", x.step(6, 0, 1), NONE);
        Doc.promise(1, "no PROGRAM");
        Check.due("count(0)", x.count(0), 0);
        Check.due("run(0, false)", x.run(0, false), RANGE);
        Doc.promise(1, "VALUES 0");
        for (int v = 0; v < 20; v++) {
            Check.due("value(" + v + ")", x.value(v), v == 8 || v == 9 ? -2000000000 : 0);
        }
        Doc.promise(1, "a TABLE of cells of 4 by 4, free and without balls.");
        for (int a = -1; a <= 4; a++) {
            for (int b = -1; b <= 4; b++) {
                boolean there = a >= 0 && a < 4 && b >= 0 && b < 4;
                Check.due("cell(" + a + ", " + b + ")", x.cell(a, b), there ? 0 : RANGE);
                Check.due("part(" + a + ", " + b + ", 0)", x.part(a, b, 0), there ? 0 : RANGE);
            }
        }
        Check.due("count(3)", x.count(3), 0);
        Check.due("count(4)", x.count(4), 4);
        Check.due("count(5)", x.count(5), 4);
    }

    /** Twenty blanks but for one byte; the PLACE of its FAULT is where the byte stands. */
    private static int placeOf(int position, int value) {
        MarbleFloor x = new MarbleFloor();
        int[] five = {0x20202020, 0x20202020, 0x20202020, 0x20202020, 0x20202020};
        int shift = 24 - 8 * (position % 4);
        five[position / 4] = five[position / 4] & ~(255 << shift) | value << shift;
        x.feed(five[0], five[1], five[2], five[3], five[4]);
        x.program();
        return x.fault(1);
    }

    private static void feed() {
        Doc.promise(2, "Twenty bytes come behind THE TAPE, the highest of each int first: how many it has;");
        for (int position = 0; position < 20; position++) {
            Check.due("a 0 at " + position, placeOf(position, 0), position);
            Check.due("a 127 at " + position, placeOf(position, 127), position);
            Check.due("a 128 at " + position, placeOf(position, 128), position);
            Check.due("a 255 at " + position, placeOf(position, 255), position);
        }
        MarbleFloor x = new MarbleFloor();
        Check.due("the first feed", x.feed(0, 0, 0, 0, 0), 20);
        Check.due("the next one", x.feed(-1, -1, -1, -1, -1), 40);
        Check.due("end(1)", x.end(1), 1);
        Check.due("behind one byte", x.feed(0, 0, 0, 0, 0), 21);

        Doc.promise(2, "FULL when there would be more than 900.");
        x = new MarbleFloor();
        for (int n = 1; n <= 44; n++) {
            Check.due("feed", x.feed(0, 0, 0, 0, 0), 20 * n);
        }
        Check.due("to 900", x.feed(0, 0, 0, 0, 0), 900);
        Check.due("to 920", x.feed(0, 0, 0, 0, 0), FULL);
        Check.due("nothing came", x.count(8), 900);
        for (int n = 899; n > 880; n--) {
            Check.due("end", x.end(n), n);
            Check.due("to " + (n + 20), x.feed(0, 0, 0, 0, 0), FULL);
            Check.due("nothing came", x.count(8), n);
        }
        Check.due("end(880)", x.end(880), 880);
        Check.due("to 900", x.feed(0, 0, 0, 0, 0), 900);
    }

    private static void end() {
        Doc.promise(3, "THE TAPE has its first n bytes alone: n;");
        MarbleFloor x = new MarbleFloor();
        Check.feed(x, "lanes 3; turn 0; turn 1; ");
        Check.due("end(16)", x.end(16), 16);
        Check.due("count(8)", x.count(8), 16);
        Check.due("floor(0)", x.floor(0), 1);
        Check.feed(x, "lanes 3; turn 0; turn 1; ");
        Check.due("end of all", x.end(25), 25);
        Check.due("floor(0)", x.floor(0), 2);
        Check.feed(x, "lanes 3; turn 0; turn 1; ");
        Check.due("end(0)", x.end(0), 0);
        Check.due("floor(0)", x.floor(0), NONE);
        Check.due("fault(1)", x.fault(1), 0);
        Check.due("end(0) of none", x.end(0), 0);
        Check.feed(x, "turn 1; turn");
        x.end(0);
        Check.feed(x, "lanes 2;");
        Check.due("what was cut off is gone", x.floor(0), 0);

        Doc.promise(3, "NONE when it has not so many, or n is below 0.");
        Check.due("end(1) of none", x.end(1), NONE);
        x.feed(0, 0, 0, 0, 0);
        Check.due("end(21)", x.end(21), NONE);
        Check.due("end(-1)", x.end(-1), NONE);
        Check.due("end(least int)", x.end(Integer.MIN_VALUE), NONE);
        Check.due("end(greatest int)", x.end(Integer.MAX_VALUE), NONE);
        Check.due("nothing is cut off", x.count(8), 20);
        Check.due("end(20)", x.end(20), 20);
    }

    private static void emptied() {
        Doc.terms("I. THE TAPE has at most 900 bytes;");
        MarbleFloor x = new MarbleFloor();
        Check.feed(x, "lanes 8;" + " ".repeat(884) + "turn 7; ");
        Check.due("count(8)", x.count(8), 900);
        Check.due("the last byte but one counts", x.floor(0), 1);
        Check.feed(x, "lanes 8;" + " ".repeat(884) + "turn 7  ");
        Check.due("the end of 900 bytes", x.floor(0), NONE);
        Check.due("its PLACE", x.fault(1), 900);
        Check.feed(x, " ".repeat(899) + "x");
        Check.due("the 900th byte", x.program(), NONE);
        Check.due("its PLACE", x.fault(1), 899);

        for (int i = 0; i < SIGNS.length(); i++) {
            String all = SIGNS.substring(i, i + 1).repeat(900);
            Check.due("900 TOKENS", Check.floor(x, 0, all), NONE);
            Check.due("900 TOKENS", Check.program(x, all), NONE);
            Check.due("the first is wrong", x.fault(1), 0);
        }
        Check.due("899 bytes of a WORD", Check.program(x, "proc " + "a".repeat(895)), NONE);
        Check.due("its PLACE", x.fault(1), 5);

        Doc.terms("each call that reads it empties it, whatever it tells.");
        String[] floors = {"lanes 2;", "lanes", "lanes 9;", ""};
        for (String text : floors) {
            for (int f = -1; f <= 6; f++) {
                Check.feed(x, text);
                x.floor(f);
                Check.due("count(8) behind floor(" + f + ") of " + text, x.count(8), 0);
                Check.due("end(1)", x.end(1), NONE);
            }
        }
        String[] programs = {"proc aa is end;", "proc", "proc aa is call bb; end;", ""};
        for (String text : programs) {
            Check.feed(x, text);
            x.program();
            Check.due("count(8) behind program of " + text, x.count(8), 0);
            Check.due("end(1)", x.end(1), NONE);
        }
    }

    private static void notEmptied() {
        MarbleFloor x = new MarbleFloor();
        Check.feed(x, "lanes 3; turn 1;");
        x.fault(0);
        x.step(0, 0, 0);
        x.out(0, 0, false);
        x.odd(0);
        x.cycle(0, 0);
        x.order(0);
        x.apart(0, 1);
        x.least(0, 31, 1);
        x.lay(0, 1);
        x.roll(0, 1, 1);
        x.chain(0, 0, 1);
        x.let(0, 1);
        x.value(0);
        x.run(0, false);
        x.trouble(0);
        x.table(3, 3);
        x.part(0, 0, 1);
        x.ball(0, 0, 0, true);
        x.cell(0, 0);
        x.beat(1);
        x.back(1);
        x.round();
        x.trail(2, 2);
        x.move(0);
        x.watch(0);
        x.see(0, 0, 0);
        x.right(0, 0, 0);
        x.fit(0);
        x.look();
        Check.due("bytes stay behind all other calls", x.count(8), 16);
        Check.due("they are as they were", x.floor(5), 1);
    }

    private static int floorOf(String text) {
        return Check.floor(new MarbleFloor(), 0, text);
    }

    private static int programOf(String text) {
        return Check.program(new MarbleFloor(), text);
    }

    private static void blanks() {
        Doc.terms("TOKENS with any blanks (32, 10) between:");
        Check.due("none", floorOf("lanes2;turn0if1;swap1 0;"), 2);
        Check.due("many", floorOf("\n\n lanes \n 2 \n;\n turn  0\nif\n1 ; swap\n1\n0;\n \n"), 2);
        Check.due("none", programOf("proc aa is add z[1]a+1;end;proc bb is end;"), 2);
        Check.due("many", programOf(" \nproc\naa\nis\nadd\nz\n[\n1\n]\na\n+\n1\n;\nend\n;\n"), 1);
        int[] none = {0, 9, 11, 12, 13, 31, 33, 127, 160};
        for (int c : none) {
            Check.due("the byte " + c + " is no blank", floorOf("lanes" + (char) c + "2;"), NONE);
        }
        Check.due("a blank parts a WORD", floorOf("la nes 2;"), NONE);
        Check.due("a blank parts an N", floorOf("lanes 0 2;"), NONE);
    }

    private static void words() {
        Doc.terms("WORDS (small letters, as many as there are, 8 at most)");
        for (int length = 2; length <= 12; length++) {
            MarbleFloor x = new MarbleFloor();
            String name = "qwertyuiopas".substring(0, length);
            Check.due("a WORD of " + length, Check.program(x, "proc " + name + " is end;"), length <= 8 ? 1 : NONE);
            Check.due("its FAULT", x.fault(0), length <= 8 ? 0 : 1);
            Check.due("its PLACE", x.fault(1), length <= 8 ? NONE : 5);
        }
        Check.due("names of 8 that part at the last", programOf("proc aaaaaaaa is end; proc aaaaaaab is end;"), 2);
        Check.due("names of 8 that part at the first", programOf("proc aaaaaaaa is end; proc baaaaaaa is end;"), 2);
        Check.due("a name and a longer one", programOf("proc aa is end; proc aaa is end;"), 2);
        MarbleFloor x = new MarbleFloor();
        Check.due("as many as there are", Check.floor(x, 0, "lanes 2; turnif 0;"), NONE);
        Check.due("its PLACE", x.fault(1), 9);
        Check.due("great letters are none", floorOf("LANES 2;"), NONE);
        String[] around = {"`", "{", "A", "Z", "_"};
        for (String sign : around) {
            Check.due("no letter: " + sign, Check.program(x, "proc a" + sign + "a is end;"), NONE);
            Check.due("its PLACE", x.fault(1), 5);
            Check.due("no letter: " + sign, Check.program(x, "proc aa" + sign + " is end;"), NONE);
            Check.due("its PLACE", x.fault(1), 7);
        }
        Check.due("a and z are letters", programOf("proc az is end; proc za is end;"), 2);
    }

    private static void numbers() {
        Doc.terms("N (digits, as many as there are, 4 at most)");
        String[] fine = {"0", "9", "00", "10", "99", "000", "100", "999", "0000", "0009", "1000", "9999"};
        for (String n : fine) {
            MarbleFloor x = new MarbleFloor();
            Check.due(n, Check.program(x, "proc aa is add a " + n + "; end;"), 1);
            x.run(0, false);
            Check.due("value of " + n, x.value(0), Integer.parseInt(n));
        }
        String[] bad = {"00000", "00001", "10000", "99999", "4294967297", "18446744073709551617", "0".repeat(60)};
        for (String n : bad) {
            MarbleFloor x = new MarbleFloor();
            Check.due(n, Check.program(x, "proc aa is add a " + n + "; end;"), NONE);
            Check.due("FAULT of " + n, x.fault(0), 1);
            Check.due("PLACE of " + n, x.fault(1), 17);
            Check.due("lanes " + n, Check.floor(x, 0, "lanes " + n + ";"), NONE);
            Check.due("FAULT of " + n, x.fault(0), 1);
            Check.due("PLACE of " + n, x.fault(1), 6);
        }
        Check.due("lanes 0008", floorOf("lanes 0008; turn 0007 if 0000;"), 1);
    }

    /** Each byte ahead of a text, and between the two numbers of a sum: what it is can be told by the FAULT. */
    private static void everyByte() {
        Doc.terms("; = < > ! + - * / % & ( ) [ ] (a byte each).");
        for (int c = 0; c < 256; c++) {
            boolean blank = c == 32 || c == 10;
            MarbleFloor x = new MarbleFloor();
            Check.due("ahead: " + c, Check.floor(x, 0, (char) c + "lanes 2;"), blank ? 0 : NONE);
            Check.due("FAULT of " + c, x.fault(0), blank ? 0 : 1);
            Check.due("PLACE of " + c, x.fault(1), blank ? NONE : 0);
            Check.due("behind: " + c, Check.floor(x, 0, "lanes 2;" + (char) c), blank ? 0 : NONE);
            Check.due("PLACE of " + c, x.fault(1), blank ? NONE : 8);
            boolean digit = c >= '0' && c <= '9';
            boolean between = digit || "+-*/%&".indexOf(c) >= 0;
            Check.due("between: " + c, Check.program(x, "proc aa is add a 1" + (char) c + "1; end;"), between ? 1 : NONE);
            Check.due("FAULT of " + c, x.fault(0), between ? 0 : 1);
            Check.due("PLACE of " + c, x.fault(1), between ? NONE : blank || c == ';' ? 19 : 18);
            boolean relation = "=<>!".indexOf(c) >= 0;
            String text = "proc aa is if 1" + (char) c + "1 then else fi 1=1; end;";
            Check.due("in a TEST: " + c, Check.program(x, text), relation ? 1 : NONE);
        }
        for (int i = 0; i < SIGNS.length(); i++) {
            MarbleFloor x = new MarbleFloor();
            String two = "" + SIGNS.charAt(i) + SIGNS.charAt(i);
            Check.due("a byte each: " + two, Check.program(x, "proc aa is add a 1" + two + "1; end;"), NONE);
            boolean sign = "+-*/%&;".indexOf(SIGNS.charAt(i)) >= 0;
            Check.due("PLACE of the second " + two, x.fault(1), sign ? 19 : 18);
        }
        byte[] high = {(byte) 0xec, (byte) 0xe1};
        MarbleFloor x = new MarbleFloor();
        Check.floor(x, 0, new String(high, StandardCharsets.ISO_8859_1) + "nes 2;");
        Check.due("letters with the highest bit are none", x.fault(1), 0);
    }

    private static void counts() {
        Doc.promise(35, "What 0: procs,");
        MarbleFloor x = new MarbleFloor();
        Check.due("count(0)", x.count(0), 0);
        for (int procs = 1; procs <= 6; procs++) {
            StringBuilder text = new StringBuilder();
            for (int p = 0; p < procs; p++) {
                text.append("proc p").append((char) ('a' + p)).append(" is end;");
            }
            Check.program(x, text.toString());
            Check.due("count(0)", x.count(0), procs);
        }
        Check.program(x, "proc");
        Check.due("count(0) behind a FAULT", x.count(0), 6);
        Check.program(x, "");
        Check.due("count(0) of none", x.count(0), 0);

        Doc.promise(35, "1: HEAT,");
        x.part(1, 1, 3);
        x.ball(1, 1, 0, true);
        Check.due("count(1) ahead", x.count(1), 0);
        x.beat(1);
        Check.due("count(1) behind", x.count(1), 1);
        x.ball(1, 1, 2, true);
        x.beat(1);
        Check.due("count(1) grows", x.count(1), 2);

        Doc.promise(35, "3: balls, 4: wide, 5: high,");
        x.table(10, 10);
        for (int way = 0; way < 4; way++) {
            for (int i = 0; i < 100; i++) {
                x.ball(i % 10, i / 10, way, true);
                Check.due("count(3)", x.count(3), 100 * way + i + 1);
            }
        }
        Check.due("count(3) full", x.count(3), 400);
        for (int wide = 2; wide <= 10; wide++) {
            for (int high = 2; high <= 10; high++) {
                x.table(wide, high);
                Check.due("count(3) of a new one", x.count(3), 0);
                Check.due("count(4)", x.count(4), wide);
                Check.due("count(5)", x.count(5), high);
            }
        }

        Doc.promise(35, "6: SEEN, 7: puttings RIGHT,");
        Check.due("count(6) of none", x.count(6), 0);
        Check.due("count(7) of none", x.count(7), 0);
        x.watch(0);
        for (int n = 1; n <= 22; n++) {
            x.see(0, 0, 0);
            Check.due("count(6)", x.count(6), Math.min(n, 20));
        }
        for (int n = 1; n <= 22; n++) {
            x.right(0, 0, 0);
            Check.due("count(7)", x.count(7), Math.min(n, 20));
        }

        Doc.promise(35, "8: bytes of THE TAPE.");
        for (int n = 1; n <= 46; n++) {
            x.feed(0, 0, 0, 0, 0);
            Check.due("count(8)", x.count(8), Math.min(20 * n, 900));
        }
        x.end(13);
        Check.due("count(8)", x.count(8), 13);

        Doc.promise(35, "NONE for others.");
        int[] others = {-1, 9, 10, 256, Integer.MIN_VALUE, Integer.MAX_VALUE};
        for (int what : others) {
            Check.due("count(" + what + ")", x.count(what), NONE);
        }
        for (int what = 0; what <= 8; what++) {
            Check.due("count(" + what + ") is there", x.count(what) == NONE ? 0 : 1, 1);
        }
    }

    private static void manyCalls() {
        Doc.promise(35, "2: BEATS that can be undone (at most 1000000),");
        MarbleFloor x = new MarbleFloor();
        x.ball(1, 2, 0, true);
        for (int n = 2; n <= 511; n++) {
            x.beat(500);
        }
        Check.due("count(2), the 512th call", x.count(2), 510 * 500);
        x = new MarbleFloor();
        Check.due("count(2) of a new one", x.count(2), 0);
        x.beat(1);
        Check.due("count(2)", x.count(2), 1);
        x.back(1);
        Check.due("count(2)", x.count(2), 0);
    }
}
