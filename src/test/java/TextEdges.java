import java.util.ArrayList;
import java.util.List;
import java.util.regex.Matcher;

/** The edges that the document names of the texts of FLOORS and PROGRAMS, and of their FAULTS. */
final class TextEdges {
    private static final int NONE = MarbleFloor.NONE;
    private static final int RANGE = MarbleFloor.RANGE;
    private static final String[] KEYS = {"proc", "is", "end", "add", "sub", "xor", "swap", "if", "then", "else", "fi", "from",
        "do", "loop", "until", "call", "uncall"};
    private static final String[] TOKENS = {"lanes", "turn", "swap", "if", "proc", "is", "end", "add", "sub", "xor", "then",
        "else", "fi", "from", "do", "loop", "until", "call", "uncall", "a", "b", "h", "i", "y", "z", "aa", "bb", "qq", "0", "1",
        "2", "3", "8", "9", "10", "9999", "10000", ";", "=", "<", ">", "!", "+", "-", "*", "/", "%", "&", "(", ")", "[", "]",
        "@", ",", "abcdefgh", "abcdefghi", "A"};

    private TextEdges() {
    }

    static void all() {
        floorText();
        lanes();
        lanesOfSteps();
        fortySteps();
        floorNumbers();
        programText();
        variables();
        tests();
        names();
        procs();
        sixtySteps();
        sixOpen();
        twelve();
        calledAhead();
        faults();
        twiceInFloors();
        twiceInPrograms();
        roomAndUnknown();
        floorCall();
        faultCall();
        programCall();
    }

    /** The FAULT stands at the sign |, which is left out; KIND 0: there is none. */
    private static void fault(boolean program, String marked, int kind) {
        MarbleFloor x = new MarbleFloor();
        String text = marked.replace("|", "");
        int told = program ? Check.program(x, text) : Check.floor(x, 0, text);
        Check.due(marked, told < 0 ? told : 0, kind == 0 ? 0 : NONE);
        Check.due("fault(0) of " + marked, x.fault(0), kind);
        Check.due("fault(1) of " + marked, x.fault(1), kind == 0 ? NONE : marked.indexOf('|'));
    }

    private static void floor(String marked, int kind) {
        fault(false, marked, kind);
    }

    private static void program(String marked, int kind) {
        fault(true, marked, kind);
    }

    /** One BODY within a proc. */
    private static void body(String marked, int kind) {
        program("proc aa is " + marked + (kind == 0 ? " end;" : ""), kind);
    }

    /** Every TOKEN behind every beginning of a text, as a second reader has it. */
    private static void everyToken(boolean program, String text) {
        List<Integer> ends = new ArrayList<>();
        ends.add(0);
        Matcher m = SecondReader.TOKEN.matcher(text);
        while (m.find()) {
            ends.add(m.end());
        }
        for (int end : ends) {
            for (String token : TOKENS) {
                String made = text.substring(0, end) + " " + token;
                compare(program, made);
                compare(program, made + text.substring(end));
            }
            compare(program, text.substring(0, end));
            compare(program, text.substring(0, end) + " \n ");
        }
    }

    private static void compare(boolean program, String text) {
        MarbleFloor x = new MarbleFloor();
        int[] due = new SecondReader(text).read(program);
        int told = program ? Check.program(x, text) : Check.floor(x, 0, text);
        Check.due(text, told < 0 ? told : 0, due[0] == 0 ? 0 : NONE);
        Check.due("fault(0) of " + text, x.fault(0), due[0]);
        Check.due("fault(1) of " + text, x.fault(1), due[1]);
    }

    private static void floorText() {
        Doc.terms("A FLOOR's text = \"lanes\" N \";\" {STEP \";\"};");
        floor("|", 1);
        floor(" \n |", 1);
        floor("lanes|", 1);
        floor("lanes 1|", 1);
        floor("lanes 1;", 0);
        floor("lanes 1;|;", 1);
        floor("lanes 2; turn 0|", 1);
        floor("lanes 2; turn 0;", 0);
        floor("lanes 2; turn 0;|;", 1);
        floor("lanes 2; |lanes 2;", 1);
        Doc.terms("STEP = \"turn\" N {\"if\" N} | \"swap\" N N {\"if\" N}.");
        floor("lanes 4; turn|", 1);
        floor("lanes 4; turn|;", 1);
        floor("lanes 4; turn 0 |1;", 1);
        floor("lanes 4; turn 0 if|;", 1);
        floor("lanes 4; turn 0 if 1 |2;", 1);
        floor("lanes 4; turn 0 if 1 if 2 if 3;", 0);
        floor("lanes 4; swap 0|;", 1);
        floor("lanes 4; swap 0 |if 1;", 1);
        floor("lanes 4; swap 0 1;", 0);
        floor("lanes 4; swap 0 1 |2;", 1);
        floor("lanes 4; swap 0 1 if|;", 1);
        floor("lanes 4; swap 0 1 if 2 if 3;", 0);
        everyToken(false, "lanes 4; turn 0 if 1 if 2; swap 3 1 if 2; swap 2 1; turn 2;");
        everyToken(false, "lanes 1; turn 0;");
    }

    private static void lanes() {
        Doc.terms("lanes 1 .. 8,");
        for (int n = 0; n <= 20; n++) {
            floor("lanes |" + n + ";", n < 1 || n > 8 ? 2 : 0);
        }
        floor("lanes |9999;", 2);
        floor("lanes |0000;", 2);
        MarbleFloor x = new MarbleFloor();
        for (int n = 1; n <= 8; n++) {
            Check.floor(x, 0, "lanes " + n + ";");
            Check.due("lanes", x.step(0, 0, 1), n);
        }
    }

    private static void lanesOfSteps() {
        Doc.terms("N of a STEP 0 .. lanes - 1,");
        for (int lanes = 1; lanes <= 8; lanes++) {
            for (int n = 0; n <= 12; n++) {
                int kind = n < lanes ? 0 : 2;
                floor("lanes " + lanes + "; turn |" + n + ";", kind);
                if (lanes > 1) {
                    int other = n == 0 ? 1 : 0;
                    floor("lanes " + lanes + "; swap |" + n + " " + other + ";", kind);
                    floor("lanes " + lanes + "; swap " + other + " |" + n + ";", kind);
                    floor("lanes " + lanes + "; turn " + other + " if |" + n + ";", kind);
                }
                if (lanes > 2 && n != 1 && n != 2) {
                    floor("lanes " + lanes + "; swap 1 2 if |" + n + ";", kind);
                }
            }
        }
        floor("lanes 8; turn |9999;", 2);
        floor("lanes 1; turn 0 if |1;", 2);
    }

    private static void fortySteps() {
        Doc.terms("at most 40 STEPS.");
        String[] kinds = {"turn 0;", "swap 0 1;", "turn 1 if 0;"};
        for (String kind : kinds) {
            for (int n = 38; n <= 40; n++) {
                floor("lanes 2;" + kind.repeat(n), 0);
                Check.due("STEPS", Check.floor(new MarbleFloor(), 3, "lanes 2;" + kind.repeat(n)), n);
            }
            floor("lanes 2;" + kind.repeat(40) + "|" + kind, 4);
            floor("lanes 2;" + kind.repeat(40) + "|swap", 4);
            floor("lanes 2;" + kind.repeat(40) + "|turn 9", 4);
            floor("lanes 2;" + kind.repeat(40) + "|if", 1);
            floor("lanes 2;" + kind.repeat(40) + "|;", 1);
            floor("lanes 2;" + kind.repeat(39) + "turn |2;turn 0;", 2);
        }
        floor("lanes 8;" + "turn 0 if 1 if 2;".repeat(40), 0);
    }

    private static void floorNumbers() {
        Doc.terms("FLOORS 0 .. 5, one lane without STEPS each at first.");
        MarbleFloor x = new MarbleFloor();
        for (int f = 0; f <= 5; f++) {
            Check.dueText("at first", Check.show(x, f), "lanes 1;");
        }
        for (int f = -2; f <= 8; f++) {
            boolean there = f >= 0 && f <= 5;
            Check.due("floor(" + f + ")", Check.floor(x, f, "lanes 2; turn 1;"), there ? 1 : RANGE);
            Check.due("its lanes", x.step(f, 0, 1), there ? 2 : NONE);
        }
    }

    private static void programText() {
        Doc.terms("A PROGRAM's text = {\"proc\" W \"is\" BODY \"end\" \";\"}; BODY = {STEP \";\"};");
        program("", 0);
        program("\n", 0);
        program("proc|", 1);
        program("proc aa|", 1);
        program("proc aa is|", 1);
        program("proc aa is end|", 1);
        program("proc aa is end;", 0);
        program("proc aa is end;|;", 1);
        program("proc aa is|; end;", 1);
        program("proc aa is add a 1 |end;", 1);
        program("proc aa is add a 1;|;end;", 1);
        Doc.terms("STEP = (\"add\" | \"sub\" | \"xor\") VAR SUM | \"swap\" VAR VAR | \"if\" TEST \"then\" BODY \"else\" BODY \"fi\" TEST |"
            + " \"from\" TEST \"do\" BODY \"loop\" BODY \"until\" TEST | (\"call\" | \"uncall\") W.");
        everyToken(true, "proc aa is add a 1; sub b (z[c]+2)*h; xor z[9] d&3; swap c z[a]; swap z[4] b; end;");
        everyToken(true, "proc aa is if a<1 then add b 1; else fi b>(2-a); from 1=a do call bb; loop until a!1; end; proc bb is end;");
        everyToken(true, "proc aa is from a=0 do if 1=1 then else uncall aa; fi 2=2; loop swap a b; until z[b]%7=0; end;");
        everyToken(true, "");
    }

    private static void variables() {
        Doc.terms("VAR = a .. h | \"z\" \"[\" (a .. h | N) \"]\".");
        for (char c = 'a'; c <= 'y'; c++) {
            int kind = c <= 'h' ? 0 : 1;
            String other = c == 'a' ? "b" : "a";
            body("add |" + c + " 1;", kind);
            body("add " + other + " |" + c + ";", kind);
            body("swap |" + c + " " + other + ";", kind);
            body("swap " + other + " |" + c + ";", kind);
            body("add z[|" + c + "] 1;", kind);
            body("add " + other + " z[|" + c + "];", kind);
            body("swap z[|" + c + "] " + other + ";", kind);
        }
        body("add z[|z] 1;", 1);
        body("swap z |a;", 1);
        body("swap a z|;", 1);
        body("add z |1;", 1);
        body("add a z|;", 1);
        body("add z[|] 1;", 1);
        body("add z[1|;", 1);
        body("add z[a|+1] 1;", 1);
        body("add z[|(1)] 1;", 1);
        body("add z[|z[1]] 1;", 1);
        body("add |aa 1;", 1);
        body("add a |bb;", 1);
        body("add |1 1;", 1);
        body("swap a |1;", 1);
        for (int n = 0; n <= 11; n++) {
            body("add z[|" + n + "] 1;", n <= 9 ? 0 : 2);
            body("add a z[|" + n + "];", n <= 9 ? 0 : 2);
            body("swap z[|" + n + "] a;", n <= 9 ? 0 : 2);
            body("swap a z[|" + n + "];", n <= 9 ? 0 : 2);
            body("if z[|" + n + "]=1 then else fi 1=1;", n <= 9 ? 0 : 2);
            body("if 1=1 then else fi 1=z[|" + n + "];", n <= 9 ? 0 : 2);
        }
        body("add z[0009] 1;", 0);
        body("add z[|9999] 1;", 2);
        body("add z[|00009] 1;", 1);
    }

    private static void tests() {
        Doc.terms("TEST = SUM (\"=\" | \"<\" | \">\" | \"!\") SUM (! : unlike).");
        String[] signs = {"=", "<", ">", "!"};
        for (String sign : signs) {
            body("if 1" + sign + "1 then else fi 1" + sign + "1;", 0);
            body("from 1" + sign + "1 do loop until 1" + sign + "1;", 0);
            body("if 1" + sign + "|" + sign + "1 then else fi 1=1;", 1);
            body("if (1|" + sign + "1) then else fi 1=1;", 1);
            body("add a 1|" + sign + "1;", 1);
        }
        body("if 1 |then", 1);
        body("if |=1 then", 1);
        body("if 1=|then", 1);
        body("if 1=1|=1 then", 1);
        Doc.terms("SUM = FACTOR {(\"+\" | \"-\" | \"*\" | \"/\" | \"%\" | \"&\") FACTOR}, all from the left on, none ahead of another one;");
        sum("2+3*4", 20);
        sum("2*3+4", 10);
        sum("9-4-3", 2);
        sum("9-4+3", 8);
        sum("64/4/2", 8);
        sum("7+9/4", 4);
        sum("7+9%5", 1);
        sum("6+3&5", 1);
        sum("5&3+6", 7);
        sum("1+2*3-4/5%3&9", 1);
        sum("9&13*5%7-1/2", 1);
        Doc.terms("FACTOR = N | VAR | \"(\" SUM \")\".");
        sum("2+(3*4)", 14);
        sum("(2+3)*4", 20);
        sum("((2)+((3)))*(4)", 20);
        body("add a (|);", 1);
        body("add a (1|;", 1);
        body("add a 1|);", 1);
        body("add a (1)|);", 1);
        body("add a (1) |(1);", 1);
        body("add a 1+|;", 1);
        body("add a |+1;", 1);
        body("add a 1+|+1;", 1);
        body("add a |-1;", 1);
    }

    private static void sum(String sum, int want) {
        MarbleFloor x = new MarbleFloor();
        Check.program(x, "proc aa is add a " + sum + "; end;");
        Check.due("run of " + sum, x.run(0, false), 1);
        Check.due(sum, x.value(0), want);
    }

    private static void names() {
        Doc.terms("W of a proc: a WORD of two letters or more, none of the WORDS of PROGRAMS told here.");
        for (char c = 'a'; c <= 'z'; c++) {
            program("proc |" + c + " is end;", 1);
            body("call |" + c + ";", 1);
            body("uncall |" + c + ";", 1);
            program("proc " + c + c + " is end;", 0);
            program("proc " + c + c + " is call " + c + c + "; end;", 0);
        }
        for (String key : KEYS) {
            program("proc |" + key + " is end;", 1);
            body("call |" + key + ";", 1);
            body("uncall |" + key + ";", 1);
            program("proc " + key + "x is uncall " + key + "x; end;", 0);
        }
        program("proc turn is call turn; end; proc lanes is uncall lanes; end;", 0);
        program("proc |12 is end;", 1);
        program("proc |; is end;", 1);
        body("call |12;", 1);
        body("call|;", 1);
    }

    private static String emptyProcs(int many) {
        StringBuilder text = new StringBuilder();
        for (int p = 0; p < many; p++) {
            text.append("proc p").append((char) ('a' + p)).append(" is end;");
        }
        return text.toString();
    }

    private static void procs() {
        Doc.terms("At most 6 procs,");
        for (int many = 0; many <= 6; many++) {
            Check.due(many + " procs", Check.program(new MarbleFloor(), emptyProcs(many)), many);
        }
        program(emptyProcs(6) + "|proc pg is end;", 4);
        program(emptyProcs(6) + "|proc pa", 4);
        program(emptyProcs(6) + "|proc", 4);
        program(emptyProcs(6) + "|end", 1);
        program(emptyProcs(5) + "proc |pa", 3);
    }

    private static void sixtySteps() {
        Doc.terms("60 STEPS in all,");
        String[] kinds = {"add a 1;", "swap a b;", "call aa;", "uncall aa;"};
        for (String kind : kinds) {
            body(kind.repeat(59), 0);
            body(kind.repeat(60), 0);
            body(kind.repeat(60) + "|" + kind, 4);
        }
        body("add a 1;".repeat(60) + "|xor a a;", 4);
        body("add a 1;".repeat(60) + "|if", 4);
        body("add a 1;".repeat(60) + "|from", 4);
        body("add a 1;".repeat(60) + "|proc", 1);
        body("add a 1;".repeat(59) + "add a |a;", 3);
        body("if 1=1 then else fi 1=1;".repeat(30), 0);
        String fork = "if 1=1 then add a 1; else sub a 1; fi 1=1;";
        body(fork.repeat(20), 0);
        body(fork.repeat(20) + "|add", 4);
        body(fork.repeat(19) + "add a 1; if 1=1 then add a 1; else |sub a 1; fi", 4);
        body(fork.repeat(19) + "add a 1;add b 1; if 1=1 then |add a 1; else", 4);
        body(fork.repeat(19) + "add a 1;add b 1; add c 1;|if 1=1 then", 4);
        String loop = "from 1=1 do add a 1; loop sub a 1; until 1=1;";
        body(loop.repeat(18) + "add a 1;".repeat(6), 0);
        body(loop.repeat(18) + "add a 1;".repeat(6) + "|sub", 4);
        String ten = "xor a 1;".repeat(10);
        StringBuilder six = new StringBuilder();
        for (int p = 0; p < 6; p++) {
            six.append("proc p").append((char) ('a' + p)).append(" is ").append(ten).append("end;");
        }
        program(six.toString(), 0);
        program(six.substring(0, six.length() - 4) + "|xor a 1;end;", 4);
    }

    private static void sixOpen() {
        Doc.terms("6 \"if\", \"from\", ( open at once (of each of these two kinds of STEPS together, and of brackets by themselves),");
        String fork = "if 1=1 then ";
        String loop = "from 1=1 do ";
        String endFork = "else fi 1=1;";
        String endLoop = "loop until 1=1;";
        for (int deep = 1; deep <= 6; deep++) {
            body(fork.repeat(deep) + endFork.repeat(deep), 0);
            body(loop.repeat(deep) + endLoop.repeat(deep), 0);
        }
        body(fork.repeat(6) + "|if", 4);
        body(loop.repeat(6) + "|from", 4);
        body(fork.repeat(6) + "|from", 4);
        body(loop.repeat(6) + "|if", 4);
        body((fork + loop).repeat(3) + "|if", 4);
        body((fork + loop).repeat(3) + "|from", 4);
        body((fork + loop).repeat(3) + (endLoop + endFork).repeat(3), 0);
        body(fork.repeat(6) + "add a 1; else |if", 4);
        body(loop.repeat(6) + "add a 1; loop |from", 4);
        body(fork.repeat(5) + (fork + endFork).repeat(3) + endFork.repeat(5), 0);
        body(fork.repeat(6) + endFork + "|fi", 1);
        body(fork.repeat(6) + endFork + fork + "|if", 4);
        body((fork + endFork).repeat(10), 0);
        body("if 1=1 then else ".repeat(6) + "fi 1=1;".repeat(6), 0);
        body("if 1=1 then else ".repeat(6) + "|if", 4);
        program("proc aa is " + fork.repeat(6) + endFork.repeat(6) + "end; proc bb is " + loop.repeat(6) + endLoop.repeat(6) + "end;", 0);

        for (int deep = 1; deep <= 6; deep++) {
            body("add a " + "(".repeat(deep) + "1" + ")".repeat(deep) + ";", 0);
        }
        body("add a " + "(".repeat(6) + "|(1)))))));", 4);
        body("add a ((((((1)+(2))))));", 0);
        body("add a ((((((1)+(|(2", 4);
        body("add a " + "((((((1))))))+".repeat(3) + "1;", 0);
        body("add a (((((1+(2))))))*((((((3))))));", 0);
        body("add a (((((1+(2)+(3+|(4", 4);
        body("add a (((((1+(2)+(3)+(4+|(5", 4);
        String six = "((((((1))))))";
        body("if " + six + "=" + six + " then else fi " + six + "<" + six + ";", 0);
        body("if " + six + "=((((((|(1", 4);
        body("if ((((((|(1", 4);
        body(fork.repeat(6) + "add a " + six + ";" + endFork.repeat(6), 0);
    }

    private static void twelve() {
        Doc.terms("12 N and VAR in a SUM.");
        String[] atoms = {"1", "9999", "b", "z[1]", "z[b]"};
        for (String atom : atoms) {
            String twelve = atom + ("+" + atom).repeat(11);
            body("add a " + atom + ("-" + atom).repeat(10) + ";", 0);
            body("add a " + twelve + ";", 0);
            body("add a " + twelve + "*|" + atom + ";", 4);
            body("add a " + twelve + "*(|" + atom, 4);
            body("add a (" + twelve + ");", 0);
            body("add a (" + twelve + ")&|" + atom, 4);
            body("if " + twelve + "=" + twelve + " then else fi " + twelve + "!" + twelve + ";", 0);
            body("if " + twelve + "+|" + atom, 4);
            body("if " + twelve + "=" + twelve + "+|" + atom, 4);
            body("from 1=1 do loop until " + twelve + "=" + twelve + "+|" + atom, 4);
        }
        String mixed = "1+b+z[2]+z[c]";
        body("add a " + mixed + "+" + mixed + "+" + mixed + ";", 0);
        body("add a " + mixed + "+" + mixed + "+" + mixed + "+|z", 4);
        body("add a " + mixed + "+" + mixed + "+" + mixed + "+|;", 1);
        body("add a " + mixed + "+(" + mixed + ")+(" + mixed + "+|0", 4);
    }

    private static void calledAhead() {
        Doc.terms("A proc may be called ahead of its own text;");
        program("proc aa is call bb; end; proc bb is uncall cc; end; proc cc is end;", 0);
        program("proc aa is call aa; uncall aa; end;", 0);
        MarbleFloor x = new MarbleFloor();
        Check.program(x, "proc aa is call cc; end; proc bb is add a 1; end; proc cc is add a 2; end;");
        Check.due("run", x.run(0, false), 2);
        Check.due("the right one was called", x.value(0), 2);
        Doc.terms("of one that is never told: at the text's end.");
        program("proc aa is call bb; end;|", 5);
        program("proc aa is call bb; end; \n|", 5);
        program("proc aa is uncall bb; end; proc cc is end;|", 5);
        program("proc aa is if 1=1 then else call ab; fi 1=1; end;|", 5);
    }

    private static void faults() {
        Doc.terms("FAULTS: KIND and PLACE (a TOKEN's first byte; the text's length at its end), the first come to as TOKENS are read"
            + " one by one, of one TOKEN the least KIND:");
        floor("  |turn", 1);
        floor("lanes 2;  |lanes", 1);
        floor("lanes 2; turn \n |1234", 2);
        floor("lanes 2; turn 0  |", 1);
        floor("lanes |0; turn 9;", 2);
        floor("lanes 2; turn |2; turn 0 if 0; lanes", 2);
        floor("lanes 2; turn 0 if |0 if 2; lanes", 3);
        floor("lanes 2; turn 0 |lanes; turn 2;", 1);
        body("add a |a; add b z[10]; proc", 3);
        body("add b z[|10]; add a a; proc", 2);
        body("call zz; add b z[|10]; end;", 2);
        body("call zz; |proc", 1);
        body("call zz|", 1);
        String twelve = "1" + "+1".repeat(11);
        body("add a " + twelve + "+|a;", 3);
        body("add z[1] " + twelve + "+|z[10];", 3);
        body("add a " + twelve + "+|z[10];", 4);
        body("add a " + twelve + "+|z[a];", 4);
        body("add a " + twelve + "+|i;", 1);
        body("add a " + twelve + "+|10000;", 1);
        body("add a " + twelve + "+|);", 1);
        Doc.terms("1 SYNTAX: a TOKEN (or byte that is none, a run that is too long) with which no text goes on.");
        floor("lanes 2; |?", 1);
        floor("lanes 2; turn |\u00ff", 1);
        floor("lanes 2; |turnturnt 0;", 1);
        floor("lanes 2; turn |00000;", 1);
        floor("lanes |00009;", 1);
        body("|addaddadd", 1);
        body("add a 1 |00001;", 1);
        body("add |\u00e1 1;", 1);
        body("add a 1|,2;", 1);
        Doc.terms("2 RANGE: an N out of its bounds (of a place of z: 0 .. 9).");
        floor("lanes 3; turn 2 if |3;", 2);
        floor("lanes 3; turn 2 if 1;", 0);
        body("add z[9] 9999;", 0);
        body("add z[|10] 1;", 2);
        body("add z[0] 1;", 0);
    }

    private static void twiceInFloors() {
        Doc.terms("3 TWICE: a lane that this STEP has already;");
        for (int a = 0; a < 4; a++) {
            for (int b = 0; b < 4; b++) {
                floor("lanes 4; swap " + a + " |" + b + ";", a == b ? 3 : 0);
                floor("lanes 4; turn " + a + " if |" + b + ";", a == b ? 3 : 0);
                for (int c = 0; c < 4 && a != b; c++) {
                    boolean twice = c == a || c == b;
                    floor("lanes 4; swap " + a + " " + b + " if |" + c + ";", twice ? 3 : 0);
                    floor("lanes 4; turn " + a + " if " + b + " if |" + c + ";", twice ? 3 : 0);
                    for (int d = 0; d < 4 && !twice; d++) {
                        boolean again = d == a || d == b || d == c;
                        floor("lanes 4; swap " + a + " " + b + " if " + c + " if |" + d + ";", again ? 3 : 0);
                    }
                }
            }
        }
        floor("lanes 2; turn 0; turn 0; swap 0 1; swap 0 1;", 0);
        floor("lanes 8; turn 7 if 0 if 1 if 2 if 3 if 4 if 5 if 6;", 0);
        floor("lanes 8; turn 7 if 0 if 1 if 2 if 3 if 4 if 5 if 6 if |0;", 3);
        floor("lanes 8; turn 7 if 0 if 1 if 2 if 3 if 4 if 5 if 6 if |8;", 2);
    }

    private static void twiceInPrograms() {
        Doc.terms("a proc's W again;");
        program("proc aa is end; proc |aa is end;", 3);
        program("proc aa is end; proc bb is end; proc |aa", 3);
        program("proc abcdefgh is end; proc |abcdefgh is end;", 3);
        program("proc abcdefgh is end; proc abcdefg is end;", 0);
        Doc.terms("in add, sub, xor the letter that is changed (of z: z) anywhere within its SUM;");
        String[] kinds = {"add", "sub", "xor"};
        for (String kind : kinds) {
            for (char c = 'a'; c <= 'h'; c++) {
                String other = c == 'h' ? "g" : "h";
                body(kind + " " + c + " |" + c + ";", 3);
                body(kind + " " + c + " " + other + ";", 0);
                body(kind + " " + c + " 1+" + other + "*|" + c, 3);
                body(kind + " " + c + " (1+(|" + c, 3);
                body(kind + " " + c + " z[|" + c, 3);
                body(kind + " " + c + " z[" + other + "];", 0);
                body(kind + " " + c + " z[0]-z[|" + c, 3);
                body(kind + " z[" + c + "] " + c + ";", 0);
                body(kind + " z[" + c + "] 1+|z", 3);
            }
            body(kind + " z[0] |z[0];", 3);
            body(kind + " z[0] |z[1];", 3);
            body(kind + " z[0] (a+|z[b", 3);
        }
        body("add a 1; if a=a then add b a; else fi a+a=a; sub b a;", 0);
        Doc.terms("in swap the first one's letter as the second one (z behind z, too), or z[..] by the letter that is the other one"
            + " (at the later of both).");
        for (char c = 'a'; c <= 'h'; c++) {
            for (char d = 'a'; d <= 'h'; d++) {
                body("swap " + c + " |" + d + ";", c == d ? 3 : 0);
                body("swap z[" + c + "] |" + d + ";", c == d ? 3 : 0);
                body("swap " + c + " z[|" + d + "];", c == d ? 3 : 0);
            }
            body("swap z[3] " + c + ";", 0);
            body("swap " + c + " z[3];", 0);
            body("swap z[" + c + "] |z[4];", 3);
            body("swap z[4] |z[" + c + "];", 3);
        }
        body("swap z[0] |z[0];", 3);
        body("swap z[0] |z[1];", 3);
        body("swap z[0] |z", 3);
    }

    private static void roomAndUnknown() {
        Doc.terms("4 ROOM: a STEP, proc, \"if\" or \"from\", (, N or VAR too many, at its first TOKEN.");
        floor("lanes 1;" + "turn 0;".repeat(40) + " \n |turn 0;", 4);
        body("xor a 1;".repeat(60) + " |add a 1;", 4);
        program(emptyProcs(6) + " |proc zz is end;", 4);
        body("if 1=1 then ".repeat(6) + " |if 1=1 then", 4);
        body("from 1=1 do ".repeat(6) + " |from 1=1 do", 4);
        body("add a ((((((  |(1", 4);
        body("add a 1" + "+1".repeat(11) + "+  |1;", 4);
        body("add a 1" + "+1".repeat(11) + "+  |z[1];", 4);
        body("add a 1" + "+1".repeat(11) + "+(  |1);", 4);
        Doc.terms("5 UNKNOWN (PROGRAMS, at the text's end): a proc that was called and isn't told.");
        program("proc aa is call ab; end;|", 5);
        program("proc ab is call ab; end;", 0);
        program("proc aa is call ab; end; proc ac is call aa; end;   |", 5);
        program("proc aa is call abcdefgh; end; proc abcdefgh is end;", 0);
        program("proc aa is call abcdefgh; end; proc abcdefg is end;|", 5);
        program("proc aa is call ab; end; proc ab is uncall ad; end;|", 5);
        program("proc aa is call ab; end; |x", 1);
    }

    private static void floorCall() {
        Doc.promise(4, "THE TAPE is FLOOR f: how many STEPS;");
        MarbleFloor x = new MarbleFloor();
        for (int n = 0; n <= 40; n++) {
            Check.due("floor", Check.floor(x, n % 6, "lanes 2;" + "swap 1 0;".repeat(n)), n);
            Check.due("the last STEP", x.step(n % 6, n - 1, 0), n == 0 ? NONE : 1);
            Check.due("none behind it", x.step(n % 6, n, 0), NONE);
        }
        Doc.promise(4, "RANGE: no such number;");
        int[] bad = {-1, 6, 7, Integer.MIN_VALUE, Integer.MAX_VALUE};
        for (int f : bad) {
            Check.due("floor(" + f + ")", Check.floor(x, f, "lanes 2;"), RANGE);
            Check.due("floor(" + f + ") of a FAULT", Check.floor(x, f, "lanes"), RANGE);
        }
        Doc.promise(4, "NONE with a FAULT (it stays).");
        Check.floor(x, 5, "lanes 3; turn 2; swap 0 2 if 1;");
        String[] spoilt = {"", "lanes 9;", "lanes 2; turn 0; turn 1", "lanes 2; turn 0 if 0;", "lanes 1;" + "turn 0;".repeat(41)};
        for (String text : spoilt) {
            Check.due("floor", Check.floor(x, 5, text), NONE);
            Check.dueText("it stays", Check.show(x, 5), "lanes 3; turn 2; swap 0 2 if 1;");
        }
        String text = "lanes 4; turn 3 if 1 if 0; swap 0 2 if 3; turn 2; swap 3 1;";
        for (int end = 0; end < text.length(); end++) {
            Check.due("floor", Check.floor(x, 5, text.substring(0, end) + "?"), NONE);
            Check.dueText("it stays", Check.show(x, 5), "lanes 3; turn 2; swap 0 2 if 1;");
            Check.due("the next one is read as ever", Check.floor(x, 4, text), 4);
            Check.dueText("the next one", Check.show(x, 4), "lanes 4; turn 3 if 0 if 1; swap 0 2 if 3; turn 2; swap 3 1;");
        }
        Check.due("floor", Check.floor(x, 5, "lanes 1;"), 0);
        Check.dueText("it goes", Check.show(x, 5), "lanes 1;");
    }

    private static void faultCall() {
        Doc.promise(5, "Of the latest floor() or program() that was not RANGE, what 0: its FAULT's KIND, 0 without (and ahead of any),");
        MarbleFloor x = new MarbleFloor();
        Check.due("fault(0) ahead of any", x.fault(0), 0);
        x.floor(6);
        Check.due("fault(0) behind RANGE alone", x.fault(0), 0);
        Check.floor(x, 0, "lanes 9;");
        Check.due("fault(0) of a floor", x.fault(0), 2);
        Check.floor(x, -1, "lanes 1;");
        Check.floor(x, 6, "turn");
        Check.due("fault(0) behind RANGE", x.fault(0), 2);
        Check.program(x, "proc aa is call bb; end;");
        Check.due("fault(0) of a program", x.fault(0), 5);
        Check.floor(x, 0, "lanes 1;");
        Check.due("fault(0) without", x.fault(0), 0);
        Check.floor(x, 0, "lanes 2; turn 1 if 1;");
        Check.due("fault(0) of a floor", x.fault(0), 3);
        Check.program(x, "");
        Check.due("fault(0) without", x.fault(0), 0);
        Doc.promise(5, "1: its PLACE (NONE).");
        x = new MarbleFloor();
        Check.due("fault(1) ahead of any", x.fault(1), NONE);
        x.floor(-1);
        Check.due("fault(1) behind RANGE alone", x.fault(1), NONE);
        x.floor(0);
        Check.due("fault(1) of a text without bytes", x.fault(1), 0);
        Check.floor(x, 0, "lanes 9;");
        Check.due("fault(1)", x.fault(1), 6);
        Check.floor(x, 6, "lanes 1;");
        Check.due("fault(1) behind RANGE", x.fault(1), 6);
        Check.program(x, "proc aa is call bb; end;");
        Check.due("fault(1)", x.fault(1), 24);
        x.program();
        Check.due("fault(1) without", x.fault(1), NONE);
        Doc.promise(5, "NONE for another what.");
        int[] others = {-1, 2, 3, Integer.MIN_VALUE, Integer.MAX_VALUE};
        for (int what : others) {
            Check.due("fault(" + what + ")", x.fault(what), NONE);
        }
        x.floor(0);
        for (int what : others) {
            Check.due("fault(" + what + ") with a FAULT", x.fault(what), NONE);
        }
    }

    private static void programCall() {
        Doc.promise(16, "THE TAPE is THE PROGRAM: how many procs;");
        MarbleFloor x = new MarbleFloor();
        for (int many = 6; many >= 0; many--) {
            Check.due("program", Check.program(x, emptyProcs(many)), many);
            Check.due("the last proc", x.run(many - 1, false), many == 0 ? RANGE : 0);
            Check.due("none behind it", x.run(many, false), RANGE);
        }
        Doc.promise(16, "NONE with a FAULT (it stays).");
        Check.program(x, "proc aa is add a 1; end; proc bb is add a 10; end;");
        String[] spoilt = {"proc", "proc aa is add b 1; end; proc bb is add b 2; end; proc cc is call dd; end;",
            "proc aa is add b 1; end; proc aa is end;", "proc aa is add z[10] 1; end;", emptyProcs(6) + "proc"};
        for (String text : spoilt) {
            Check.due("program", Check.program(x, text), NONE);
            Check.due("it stays", x.count(0), 2);
            x.let(0, 0);
            Check.due("it stays", x.run(1, false), 1);
            Check.due("it stays", x.value(0), 10);
            Check.due("it stays", x.value(1), 0);
        }
        Doc.promise(16, "(VALUES stay.)");
        x.let(7, -5);
        x.let(19, 6);
        Check.due("program", Check.program(x, "proc aa is end;"), 1);
        Check.due("value(7)", x.value(7), -5);
        Check.due("value(19)", x.value(19), 6);
        Check.due("program", Check.program(x, "proc"), NONE);
        Check.due("value(7)", x.value(7), -5);
        Check.due("value(19)", x.value(19), 6);
    }
}
