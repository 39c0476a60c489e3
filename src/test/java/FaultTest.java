import java.util.ArrayList;
import java.util.List;
import java.util.regex.Matcher;

/** Promise 5 (fault), with 4 and 16: told texts, and many spoilt ones against a second reader with a stack of signs. */
final class FaultTest {
    public static void main(String[] args) {
        floors();
        programs();
        twice();
        room();
        latest();
        behindFaults();
        int[] met = new int[6];
        MarbleFloor x = new MarbleFloor();
        for (int seed = 0; seed < 30000; seed++) {
            Check check = new Check(seed);
            String text = check.coin() ? spoil(check, madeProgram(check)) : spoil(check, check.floorText(1 + check.below(8), check.below(8)));
            // Some texts are read by one object, since no fault may leave anything behind it.
            x = seed % 10 == 0 ? new MarbleFloor() : x;
            compare(x, text, met);
        }
        for (int kind = 0; kind < 6; kind++) {
            Check.due("made texts with fault " + kind + " are enough: " + met[kind], met[kind] > 20 ? 1 : 0, 1);
        }
        Check.finish("FaultTest");
    }

    private static void fault(boolean program, String text, int kind, int place) {
        MarbleFloor x = new MarbleFloor();
        int told = program ? Check.program(x, text) : Check.floor(x, 0, text);
        Check.due(text, told, kind == 0 ? told : -1);
        Check.due("no fault of " + text, told >= 0 ? 1 : 0, kind == 0 ? 1 : 0);
        Check.due("fault(0) of " + text, x.fault(0), kind);
        Check.due("fault(1) of " + text, x.fault(1), place);
        Check.due("fault(2)", x.fault(2), -1);
        Check.due("fault(-1)", x.fault(-1), -1);
    }

    private static void floor(String text, int kind, int place) {
        fault(false, text, kind, place);
    }

    /** The fault stands at the sign |, which is left out. */
    private static void program(String text, int kind) {
        fault(true, text.replace("|", ""), kind, kind == 0 ? -1 : text.indexOf('|'));
    }

    private static void floors() {
        floor("", 1, 0);
        floor("  \n", 1, 3);
        floor("lanes", 1, 5);
        floor("lanes 3", 1, 7);
        floor("lanes 3 ", 1, 8);
        floor("lanes 3;", 0, -1);
        floor("lanes3;", 0, -1);
        floor("lanes 0;", 2, 6);
        floor("lanes 9;", 2, 6);
        floor("lanes 0003;", 0, -1);
        floor("lanes 00003;", 1, 6);
        floor("lane 3;", 1, 0);
        floor("turn 3;", 1, 0);
        floor("Lanes 3;", 1, 0);
        floor("lanes\t3;", 1, 5);
        floor("lanes 3;\u00e9", 1, 8);
        floor("lanes 3; turn 0", 1, 15);
        floor("lanes 3; turn 0; turn", 1, 21);
        floor("lanes 3; turn 3;", 2, 14);
        floor("lanes 3; turn 0 if 3;", 2, 19);
        floor("lanes 3; turn 0 if 0;", 3, 19);
        floor("lanes 3; turn 0 if 1 if 1;", 3, 24);
        floor("lanes 3; turn 0 if 1 2;", 1, 21);
        floor("lanes 3; turn 0 1;", 1, 16);
        floor("lanes 3; swap 0;", 1, 15);
        floor("lanes 3; swap 0 0;", 3, 16);
        floor("lanes 3; swap 0 1 if 0;", 3, 21);
        floor("lanes 3; swap 0 1 if 1;", 3, 21);
        floor("lanes 3; swap 0 1 if 2;", 0, -1);
        floor("lanes 3; swap 0 1 if 2 if 2;", 3, 26);
        floor("lanes 1; turn 0 if 0;", 3, 19);
        floor("lanes 3; swap if 1;", 1, 14);
        floor("lanes 3; turnturnturn 1;", 1, 9);
        floor("lanes 3; turn 1;;", 1, 16);
        floor("lanes 8;" + "turn 0;".repeat(40), 0, -1);
        floor("lanes 8;" + "turn 0;".repeat(40) + " swap 1 1", 4, 8 + 280 + 1);
        floor("lanes 8;" + "turn 0;".repeat(40) + " lanes", 1, 8 + 280 + 1);
        floor("lanes 2;turn 0;turn 1;+", 1, 22);
    }

    private static void programs() {
        program("", 0);
        program(" \n", 0);
        program("proc|", 1);
        program("proc |a is end;", 1);
        program("proc |then is end;", 1);
        program("proc |uncall is end;", 1);
        program("proc |abcdefghi is end;", 1);
        program("proc abcdefgh is end;", 0);
        program("proc turn is end; proc lanes is end;", 0);
        program("proc |12 is end;", 1);
        program("proc aa |end;", 1);
        program("proc aa is end|", 1);
        program("proc aa is end; |add a 1;", 1);
        program("proc aa is |proc", 1);
        program("proc aa is add |i 1; end;", 1);
        program("proc aa is add |1 1; end;", 1);
        program("proc aa is add a|; end;", 1);
        program("proc aa is add a |ab; end;", 1);
        program("proc aa is add a |-1; end;", 1);
        program("proc aa is add a 1|=1; end;", 1);
        program("proc aa is add a 1 |2; end;", 1);
        program("proc aa is add a (1|; end;", 1);
        program("proc aa is add a 1|); end;", 1);
        program("proc aa is add a (1+2)*(b&c/3%4-5); end;", 0);
        program("proc aa is add a 9999; end;", 0);
        program("proc aa is add a |10000; end;", 1);
        program("proc aa is add z[9] 1; end;", 0);
        program("proc aa is add z[|10] 1; end;", 2);
        program("proc aa is add a z[|10]; end;", 2);
        program("proc aa is add z[|z] 1; end;", 1);
        program("proc aa is add z[|i] 1; end;", 1);
        program("proc aa is add z[a|+1] 1; end;", 1);
        program("proc aa is add z |a; end;", 1);
        program("proc aa is swap a b|+1; end;", 1);
        program("proc aa is swap a |1; end;", 1);
        program("proc aa is if a=1 then else fi a=1; end;", 0);
        program("proc aa is if a=1 then |fi a=1; end;", 1);
        program("proc aa is if a=1 then add b 1|else fi a=1; end;", 1);
        program("proc aa is if a |then else fi a=1; end;", 1);
        program("proc aa is if (a|=1) then else fi a=1; end;", 1);
        program("proc aa is if a=1 |do else fi a=1; end;", 1);
        program("proc aa is if a=1|=", 1);
        program("proc aa is from a=1 do loop until a=1; end;", 0);
        program("proc aa is from a=1 do loop until a|; end;", 1);
        program("proc aa is call |a; end;", 1);
        program("proc aa is call |if; end;", 1);
        program("proc aa is call |7; end;", 1);
        program("proc aa is call aa; end;", 0);
        program("proc aa is call bb; end; proc bb is end;", 0);
        program("proc aa is call bb; end; proc cc is end;  |", 5);
        program("proc aa is uncall bb; end;|", 5);
        program("proc aa is uncall bb; end; |call", 1);
        program("proc aa is uncall bb; end|", 1);
        program("proc aa is end; proc |aa is", 3);
        program("proc aa is end; |@", 1);
    }

    private static void behindFaults() {
        MarbleFloor x = new MarbleFloor();
        String[] spoilt = {"proc aa is add a ((1+", "proc aa is add a (1+(2*a", "proc aa is if a=b then from a=b do", "proc aa is swap z[a] z",
            "proc aa is if 1+1+1+1+1+1+1+1+1+1+1+1+1", "proc aa is", "proc aa is call bb; end;"};
        for (String text : spoilt) {
            Check.due(text, Check.program(x, text), -1);
            Check.due("a fine one behind " + text, Check.program(x, "proc aa is add a b; swap z[a] b; add z[1] a*(b+2); "
                + "if a=0 then else fi a=0; end;"), 1);
            Check.due("none stays", x.fault(0), 0);
        }
    }

    private static void twice() {
        program("proc aa is add a |a; end;", 3);
        program("proc aa is sub a b+|a; end;", 3);
        program("proc aa is xor a b+(c*(|a)); end;", 3);
        program("proc aa is add a z[|a]; end;", 3);
        program("proc aa is add z[0] |z[1]; end;", 3);
        program("proc aa is add z[a] |z", 3);
        program("proc aa is add z[a] a; end;", 0);
        program("proc aa is swap a |a; end;", 3);
        program("proc aa is swap z[0] |z[1]; end;", 3);
        program("proc aa is swap z[a] |a; end;", 3);
        program("proc aa is swap a z[|a]; end;", 3);
        program("proc aa is swap z[a] b; end;", 0);
        program("proc aa is swap b z[a]; end;", 0);
        program("proc aa is swap z[1] b; end;", 0);
        program("proc aa is swap a b; add c a; add b c; if a=a then else fi b+b=b; end;", 0);
        program("proc aa is swap z[a] b; add a b; swap a b; end;", 0);
    }

    private static void room() {
        program("proc aa is " + "xor a 1;".repeat(60) + " end;", 0);
        program("proc aa is " + "xor a 1;".repeat(60) + " |xor a a; end;", 4);
        program("proc aa is " + "xor a 1;".repeat(30) + "end; proc bb is " + "xor a 1;".repeat(30) + "|call", 4);
        program("proc aa is " + "xor a 1;".repeat(60) + " |proc", 1);
        program("proc aa is end;proc ab is end;proc ac is end;proc ad is end;proc ae is end;proc af is end;", 0);
        program("proc aa is end;proc ab is end;proc ac is end;proc ad is end;proc ae is end;proc af is end; |proc aa", 4);
        program("proc aa is " + "if a=b then ".repeat(6) + "else fi a=b;".repeat(6) + " end;", 0);
        program("proc aa is " + "if a=b then ".repeat(6) + "|if a=b then", 4);
        program("proc aa is " + "if a=b then from a=b do ".repeat(3) + "|from a=b do", 4);
        program("proc aa is " + "if a=b then ".repeat(5) + "if a=b then else fi a=b; from a=b do loop until |=b", 1);
        program("proc aa is " + "if a=b then ".repeat(5) + "if a=b then else fi a=b; from a=b do loop |from", 4);
        program("proc aa is add a ((((((1)))))) + ((((((2)))))); end;", 0);
        program("proc aa is add a ((((((|(1", 4);
        program("proc aa is add a 1" + "+1".repeat(11) + "; end;", 0);
        program("proc aa is add a 1" + "+1".repeat(11) + "+|1; end;", 4);
        program("proc aa is add a 1" + "+1".repeat(11) + "+|b; end;", 4);
        program("proc aa is add a 1" + "+1".repeat(11) + "+|z[11]; end;", 4);
        program("proc aa is add a 1" + "+1".repeat(11) + "+|a; end;", 3);
        program("proc aa is add a 1" + "+1".repeat(11) + "+|i; end;", 1);
        program("proc aa is add a 1" + "+1".repeat(11) + "+(|1); end;", 4);
        program("proc aa is add a (1" + "+1".repeat(10) + ")+1+|1; end;", 4);
        program("proc aa is add a z[1]" + "+z[b]".repeat(11) + "; end;", 0);
        program("proc aa is add a z[1]" + "+z[b]".repeat(11) + "+|z[b]; end;", 4);
        program("proc aa is if 1" + "+1".repeat(11) + "=1" + "+1".repeat(11) + " then else fi 1" + "+1".repeat(11) + "<2; end;", 0);
        program("proc aa is if 1" + "+1".repeat(11) + "=1" + "+1".repeat(11) + "+|1", 4);
    }

    private static void latest() {
        MarbleFloor x = new MarbleFloor();
        Check.program(x, "proc aa is add a a;");
        Check.due("program's", x.fault(0), 3);
        Check.due("floor(6)", x.floor(6), -2);
        Check.due("RANGE tells none", x.fault(0), 3);
        Check.due("RANGE tells none", x.fault(1), 17);
        Check.floor(x, 0, "lanes 9");
        Check.due("floor's", x.fault(0), 2);
        Check.program(x, "proc aa is end;");
        Check.due("without", x.fault(0), 0);
        Check.due("without", x.fault(1), -1);
    }

    private static String madeProgram(Check check) {
        StringBuilder text = new StringBuilder();
        String[] names = {"aa", "bb", "cc", "dd", "ee", "ff", "gg", "hh"};
        int procs = check.below(10) == 0 ? 7 : 1 + check.below(3);
        for (int p = 0; p < procs; p++) {
            text.append("proc ").append(check.below(9) == 0 ? names[check.below(8)] : names[p]).append(" is ");
            body(check, text, 0);
            text.append("end;");
        }
        return text.toString();
    }

    private static void body(Check check, StringBuilder text, int deep) {
        int steps = check.below(deep == 0 && check.below(8) == 0 ? 70 : 4);
        for (int i = 0; i < steps && text.length() < 600; i++) {
            int choice = check.below(steps > 10 ? 6 : 14);
            if (choice < 3) {
                text.append(check.coin() ? "add " : "xor ").append(var(check)).append(' ').append(sum(check, 0));
            } else if (choice < 5) {
                text.append("swap ").append(var(check)).append(' ').append(var(check));
            } else if (choice < 6) {
                text.append(check.coin() ? "call " : "uncall ").append("abcdef".charAt(check.below(3))).append("abc".charAt(check.below(3)));
            } else if (deep < 9) {
                boolean fork = check.coin();
                text.append(fork ? "if " : "from ").append(test(check)).append(fork ? " then " : " do ");
                body(check, text, deep + 1);
                text.append(fork ? " else " : " loop ");
                body(check, text, deep + 1);
                text.append(fork ? " fi " : " until ").append(test(check));
            } else {
                text.append("sub a 1");
            }
            text.append(";");
        }
    }

    private static String var(Check check) {
        String letter = "" + "abcdefgh".charAt(check.below(8));
        int choice = check.below(6);
        return choice == 0 ? "z[" + letter + "]" : choice == 1 ? "z[" + check.below(11) + "]" : letter;
    }

    private static String test(Check check) {
        return sum(check, 0) + "=<>!".charAt(check.below(4)) + sum(check, 0);
    }

    private static String sum(Check check, int deep) {
        StringBuilder text = new StringBuilder();
        int factors = check.below(25) == 0 ? 14 : 1 + check.below(3);
        for (int i = 0; i < factors; i++) {
            if (i > 0) {
                text.append("+-*/%&".charAt(check.below(6)));
            }
            int choice = check.below(9);
            if (choice == 0 && deep < 9) {
                text.append("(").append(sum(check, deep + 1)).append(")");
            } else if (choice == 1 && deep < 2) {
                int open = 1 + check.below(7);
                text.append("(".repeat(open)).append("1").append(")".repeat(open));
            } else if (choice < 5) {
                text.append(check.below(10000));
            } else {
                text.append(var(check));
            }
        }
        return text.toString();
    }

    /** Some tokens are left out, told twice or turned into others; sometimes none. */
    private static String spoil(Check check, String text) {
        List<String> tokens = new ArrayList<>();
        Matcher m = SecondReader.TOKEN.matcher(text);
        while (m.find()) {
            tokens.add(m.group());
        }
        String[] others = {"if", "turn", "swap", "proc", "aa", "z", "a", ";", "(", ")", "[", "]", "=", "0", "8", "99999",
            "lanes", "abcdefghi", "?", "end", "else", "until", "+", "\u0080", "call", "qq"};
        for (int n = check.below(3); n > 0 && !tokens.isEmpty(); n--) {
            int at = check.below(tokens.size());
            switch (check.below(4)) {
                case 0: tokens.remove(at); break;
                case 1: tokens.add(at, tokens.get(at)); break;
                case 2: tokens.set(at, others[check.below(others.length)]); break;
                default:
                    if (check.below(3) == 0) {
                        tokens = new ArrayList<>(tokens.subList(0, at));
                    }
                    break;
            }
        }
        StringBuilder spoilt = new StringBuilder();
        for (String token : tokens) {
            boolean glued = spoilt.length() > 0 && isWordy(token) && isWordy(spoilt.substring(spoilt.length() - 1))
                && Character.isDigit(token.charAt(0)) == Character.isDigit(spoilt.charAt(spoilt.length() - 1));
            spoilt.append(glued || check.below(4) == 0 ? check.coin() ? " " : "\n " : "").append(token);
        }
        return spoilt.substring(0, Math.min(spoilt.length(), 900));
    }

    private static boolean isWordy(String token) {
        char c = token.charAt(0);
        return c >= 'a' && c <= 'z' || c >= '0' && c <= '9';
    }

    private static void compare(MarbleFloor x, String text, int[] met) {
        boolean program = !text.stripLeading().startsWith("lanes");
        int[] due = new SecondReader(text).read(program);
        met[due[0]]++;
        int told = program ? Check.program(x, text) : Check.floor(x, 0, text);
        Check.due("no fault of " + text, told >= 0 ? 1 : 0, due[0] == 0 ? 1 : 0);
        Check.due("fault(0) of " + text, x.fault(0), due[0]);
        Check.due("fault(1) of " + text, x.fault(1), due[1]);
    }
}
