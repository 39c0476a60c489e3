import java.util.ArrayList;
import java.util.List;

/** Promises 16 to 20: PROGRAMS, told ones and many made ones, against a run over the tree they were made from. */
final class ProgramTest {
    /** Ends an own run as TROUBLE does. */
    private static final class Trouble extends RuntimeException {
        private static final long serialVersionUID = 1L;
        final int kind;

        Trouble(int kind) {
            super(null, null, false, false);
            this.kind = kind;
        }
    }

    /** A sum, a test or a VAR: a number, a letter, z and its place, or a sign between two. */
    private record Sum(char sign, int number, Sum left, Sum right) {
    }

    private record Step(String kind, Sum left, Sum right, Sum test, Sum last, List<Step> one, List<Step> two, int proc) {
    }

    private static final String[] NAMES = {"aa", "stepper", "turn", "lanes", "zz", "abcdefgh"};
    private final Check check;
    private final List<List<Step>> procs = new ArrayList<>();
    private int[] values = new int[20];
    private int counted;
    private int left;

    private ProgramTest(Check check) {
        this.check = check;
    }

    public static void main(String[] args) {
        values();
        signs();
        ifs();
        froms();
        calls();
        counts();
        places();
        staying();
        int[] met = new int[5];
        for (int seed = 0; seed < 8000; seed++) {
            new ProgramTest(new Check(seed)).against(met);
        }
        for (int kind = 0; kind < 5; kind++) {
            Check.due("made runs with trouble " + kind + " are enough: " + met[kind], met[kind] > 20 ? 1 : 0, 1);
        }
        Check.finish("ProgramTest");
    }

    private static void values() {
        MarbleFloor x = new MarbleFloor();
        int[] bad = {-1, 8, 9, 20, Integer.MIN_VALUE, Integer.MAX_VALUE};
        for (int v : bad) {
            Check.due("let", x.let(v, 5), -2000000000);
            Check.due("value", x.value(v), -2000000000);
        }
        for (int v = 0; v < 20; v++) {
            if (v < 8 || v >= 10) {
                Check.due("let", x.let(v, 100 + v), 0);
                Check.due("let", x.let(v, 200 + v), 100 + v);
            }
        }
        Check.due("program", Check.program(x, ""), 0);
        Check.due("values stay", x.value(19), 219);
        Check.due("run", x.run(0, false), -2);
        Check.due("run", x.run(-1, false), -2);
        Check.due("trouble(2)", x.trouble(2), -1);
        Check.due("trouble(-1)", x.trouble(-1), -1);
    }

    private static void sum(String sum, int want) {
        MarbleFloor x = new MarbleFloor();
        x.let(1, Integer.MIN_VALUE);
        x.let(2, -7);
        x.let(3, 3);
        x.let(14, 44);
        Check.due(sum, Check.program(x, "proc aa is add a " + sum + "; end;"), 1);
        Check.due(sum, x.run(0, false), 1);
        Check.due(sum, x.value(0), want);
        Check.due(sum, x.run(0, true), 1);
        Check.due(sum + " undone", x.value(0), 0);
    }

    private static void signs() {
        sum("2+3*4", 20);
        sum("2+(3*4)", 14);
        sum("20-3-4", 13);
        sum("20-(3-4)", 21);
        sum("c/d", -2);
        sum("c%d", -1);
        sum("d/c", 0);
        sum("d%c", 3);
        sum("c/0", 0);
        sum("c%0", 0);
        sum("b/(0-1)", Integer.MIN_VALUE);
        sum("b%(0-1)", 0);
        sum("b-1", Integer.MAX_VALUE);
        sum("b*2", 0);
        sum("c&12", 8);
        sum("c&12+1", 9);
        sum("12&(c+1)", 8);
        sum("9999*9999", 99980001);
        sum("0012", 12);
        sum("z[4]+z[d]", 44);
        sum("((((((7))))))", 7);
        sum("1+1+1+1+1+1+1+1+1+1+1+1", 12);
        sum("1+(1+(1+(1+(1+(1+(1+1+1+1+1+1))))))", 12);
    }

    private static void test(String test, int want) {
        MarbleFloor x = new MarbleFloor();
        x.let(1, 5);
        x.let(2, -5);
        Check.program(x, "proc aa is if " + test + " then add a 1; else add a 2; fi a=1; end;");
        Check.due(test, x.run(0, false), 2);
        Check.due(test, x.value(0), want);
        Check.due(test + " undone", x.run(0, true), 2);
        Check.due(test + " undone", x.value(0), 0);
    }

    private static void ifs() {
        test("b=5", 1);
        test("b=c", 2);
        test("b!c", 1);
        test("b!5", 2);
        test("c<b", 1);
        test("b<c", 2);
        test("b<5", 2);
        test("b>c", 1);
        test("b>5", 2);
        test("b+c=(1-1)", 1);
        MarbleFloor x = new MarbleFloor();
        Check.program(x, "proc aa is if b=0 then else fi c=0; add d 1; end;");
        Check.due("both hold", x.run(0, false), 2);
        x.let(1, 1);
        Check.due("the one behind holds alone", x.run(0, false), -1);
        Check.due("trouble", x.trouble(0), 1);
        Check.due("counted", x.trouble(1), 1);
        Check.due("undone", x.run(0, true), -1);
        Check.due("counted", x.trouble(1), 2);
        Check.due("values as ahead", x.value(3), 1);
        x.let(2, 1);
        Check.due("none holds", x.run(0, false), 2);
        x.let(1, 0);
        Check.due("the one ahead holds alone", x.run(0, false), -1);
    }

    private static void froms() {
        MarbleFloor x = new MarbleFloor();
        Check.program(x, "proc aa is from a=0 do add a 1; loop add b a; until a=4; end;");
        Check.due("run", x.run(0, false), 1 + 4 + 6);
        Check.due("a", x.value(0), 4);
        Check.due("b", x.value(1), 1 + 2 + 3);
        Check.due("not at its start", x.run(0, false), -1);
        Check.due("trouble", x.trouble(0), 1);
        Check.due("counted", x.trouble(1), 1);
        Check.due("undone", x.run(0, true), 11);
        Check.due("a", x.value(0), 0);
        Check.due("b", x.value(1), 0);
        Check.due("not at its end", x.run(0, true), -1);
        Check.due("counted", x.trouble(1), 1);
        Check.program(x, "proc aa is from a=0 do loop until a=0; end;");
        Check.due("do alone", x.run(0, false), 1);
        Check.due("do alone, undone", x.run(0, true), 1);
        Check.program(x, "proc aa is from a=0 do loop until a=1; end;");
        Check.due("its start holds again", x.run(0, false), -1);
        Check.due("trouble", x.trouble(0), 1);
        Check.due("counted", x.trouble(1), 2);
        x.let(0, 1);
        Check.due("its end holds again", x.run(0, true), -1);
        Check.due("trouble", x.trouble(0), 1);
        Check.due("counted", x.trouble(1), 2);
    }

    private static void calls() {
        MarbleFloor x = new MarbleFloor();
        String text = "proc one is call two; uncall three; end; proc two is add a 1; end; proc three is sub b 2; xor c 7; end;";
        Check.due("program", Check.program(x, text), 3);
        Check.due("run", x.run(0, false), 5);
        Check.due("a", x.value(0), 1);
        Check.due("b", x.value(1), 2);
        Check.due("c", x.value(2), 7);
        Check.due("undone", x.run(0, true), 5);
        Check.due("b", x.value(1), 0);
        Check.due("another proc", x.run(2, true), 2);
        Check.due("b", x.value(1), 2);
        Check.due("no proc 3", x.run(3, true), -2);
        Check.due("trouble of the latest that was", x.trouble(1), 2);
        x.let(3, 0);
        Check.program(x, "proc deep is if d=20 then add a 0; else add d 1; call deep; sub d 1; fi d=20; end;");
        Check.due("20 calls within another", x.run(0, false), 20 * 4 + 2);
        x.let(3, -1);
        Check.due("21 calls", x.run(0, false), -1);
        Check.due("trouble", x.trouble(0), 4);
        Check.due("counted", x.trouble(1), 21 * 3);
        Check.due("values as ahead", x.value(3), -1);
    }

    private static void counts() {
        MarbleFloor x = new MarbleFloor();
        Check.program(x, "proc aa is from a=0 do add a 1; loop until a=b; end;");
        x.let(1, 2500);
        Check.due("5000", x.run(0, false), 5000);
        x.let(0, 0);
        x.let(1, 2501);
        Check.due("5002", x.run(0, false), -1);
        Check.due("trouble", x.trouble(0), 3);
        Check.due("counted", x.trouble(1), 5001);
        Check.due("values as ahead", x.value(0), 0);
        Check.program(x, "proc aa is add c 1; from a=0 do add a 1; loop until a=b; end;");
        x.let(1, 2500);
        Check.due("5001", x.run(0, false), -1);
        Check.due("trouble", x.trouble(0), 3);
        Check.due("values as ahead", x.value(2), 0);
    }

    private static void places() {
        MarbleFloor x = new MarbleFloor();
        Check.program(x, "proc aa is add b 1; add z[a] 3; swap z[a] b; add c z[a]; end;");
        for (int place = 0; place < 10; place++) {
            x.let(0, place);
            x.let(1, 6);
            x.let(2, 0);
            Check.due("run", x.run(0, false), 4);
            Check.due("b", x.value(1), 3);
            Check.due("c", x.value(2), 7);
            Check.due("z", x.value(10 + place), 7);
        }
        int[] bad = {-1, 10, Integer.MIN_VALUE, Integer.MAX_VALUE};
        for (int place : bad) {
            x.let(0, place);
            Check.due("run", x.run(0, false), -1);
            Check.due("trouble", x.trouble(0), 2);
            Check.due("counted", x.trouble(1), 2);
            Check.due("b as ahead", x.value(1), 3);
            Check.due("undone", x.run(0, true), -1);
            Check.due("counted", x.trouble(1), 1);
        }
        Check.program(x, "proc aa is swap b z[a]; end; proc bb is if z[a]=0 then fi b=0; end;");
        Check.program(x, "proc aa is swap b z[a]; end; proc bb is if z[a]=0 then else fi b=0; end;");
        Check.due("swap", x.run(0, false), -1);
        Check.due("trouble", x.trouble(0), 2);
        Check.due("a test", x.run(1, false), -1);
        Check.due("trouble", x.trouble(0), 2);
        x.let(0, 9);
        Check.due("swap", x.run(0, false), 1);
        Check.due("trouble", x.trouble(0), 0);
    }

    private static void staying() {
        MarbleFloor x = new MarbleFloor();
        Check.due("program", Check.program(x, "proc aa is add a 1; end; proc bb is end;"), 2);
        Check.due("a fault", Check.program(x, "proc cc is add a 2; end; proc dd is"), -1);
        Check.due("it stays", x.count(0), 2);
        Check.due("it stays", x.run(0, false), 1);
        Check.due("a", x.value(0), 1);
        Check.due("no steps", x.run(1, false), 0);
        Check.due("unknown", Check.program(x, "proc cc is call ee; end;"), -1);
        Check.due("it stays", x.run(0, false), 1);
        Check.due("a", x.value(0), 2);
        Check.due("another", Check.program(x, "proc cc is call dd; end; proc dd is add a 40; end;"), 2);
        Check.due("it is there", x.run(0, false), 2);
        Check.due("values stay", x.value(0), 42);
        Check.due("none", Check.program(x, " \n "), 0);
        Check.due("it is gone", x.run(0, false), -2);
        Check.due("trouble of the latest that was", x.trouble(1), 2);
    }

    private void against(int[] met) {
        MarbleFloor x = new MarbleFloor();
        StringBuilder text = new StringBuilder();
        int many = 1 + check.below(4);
        left = 6 + check.below(20);
        for (int p = 0; p < many; p++) {
            procs.add(makeBody(0, many));
            text.append("proc ").append(NAMES[p]).append(" is ");
            show(procs.get(p), text);
            text.append("end;");
        }
        if (text.length() > 880) {
            return;
        }
        Check.due(text.toString(), Check.program(x, text.toString()), many);
        for (int v = 0; v < 20; v++) {
            if (v < 8 || v >= 10) {
                int n = check.below(4) == 0 ? check.anyInt() : check.below(11);
                values[v] = n;
                x.let(v, n);
            }
        }
        for (int n = 0; n < 6; n++) {
            int p = check.below(many);
            boolean back = check.coin();
            int trouble = own(p, back);
            met[trouble]++;
            Check.due("run " + text, x.run(p, back), trouble == 0 ? counted : -1);
            Check.due("trouble of " + text, x.trouble(0), trouble);
            Check.due("counted of " + text, x.trouble(1), counted);
            for (int v = 0; v < 20; v++) {
                if (v < 8 || v >= 10) {
                    Check.due("value " + v + " of " + text, x.value(v), values[v]);
                }
            }
        }
    }

    private List<Step> makeBody(int deep, int many) {
        List<Step> body = new ArrayList<>();
        int n = check.below(4);
        for (int i = 0; i < n && left > 0; i++) {
            left--;
            body.add(makeStep(deep, many));
        }
        return body;
    }

    private Step makeStep(int deep, int many) {
        int choice = check.below(deep < 5 ? 12 : 8);
        if (choice < 5) {
            Sum var = makeVar(-1);
            Sum sum = makeSum(0, var.sign == 'z' ? 8 : var.number);
            return new Step(new String[] {"add", "sub", "xor"}[check.below(3)], var, sum, null, null, null, null, 0);
        }
        if (choice < 6) {
            int a = check.below(7);
            Sum first = letter(a);
            Sum second = check.coin() ? letter(a + 1) : new Sum('z', 0, letter(a + 1), null);
            boolean turned = check.coin();
            return new Step("swap", turned ? second : first, turned ? first : second, null, null, null, null, 0);
        }
        if (choice < 8) {
            return new Step(check.coin() ? "call" : "uncall", null, null, null, null, null, null, check.below(many));
        }
        Sum test = check.coin() ? new Sum('>', 0, letter(7), number(check.below(9))) : makeTest();
        if (choice < 10) {
            Sum last = check.below(5) > 0 ? test : makeTest();
            return new Step("if", null, null, test, last, makeBody(deep + 1, many), makeBody(deep + 1, many), 0);
        }
        if (check.below(3) == 0) {
            Sum last = check.coin() ? test : makeTest();
            return new Step("from", null, null, test, last, makeBody(deep + 1, many), makeBody(deep + 1, many), 0);
        }
        // A loop that counts a letter up, so that many runs come through it.
        int a = check.below(8);
        List<Step> one = makeBody(deep + 1, many);
        List<Step> two = makeBody(deep + 1, many);
        (check.coin() ? one : two).add(new Step("add", letter(a), number(1), null, null, null, null, 0));
        Sum start = new Sum(check.coin() ? '<' : '=', 0, letter(a), number(check.below(8)));
        Sum stop = new Sum('>', 0, letter(a), number(check.below(5) == 0 ? 9000 : check.below(12)));
        return new Step("from", null, null, start, stop, one, two, 0);
    }

    private static Sum letter(int a) {
        return new Sum('v', a, null, null);
    }

    private static Sum number(int n) {
        return new Sum('n', n, null, null);
    }

    /** A VAR in which the barred letter (8: z) is nowhere. */
    private Sum makeVar(int barred) {
        int a = check.below(8);
        a = a == barred ? (a + 1) % 8 : a;
        if (barred == 8 || check.below(3) > 0) {
            return letter(a);
        }
        return new Sum('z', 0, check.coin() ? number(check.below(10)) : letter(a), null);
    }

    private Sum makeSum(int deep, int barred) {
        if (deep > 2 || check.below(3) == 0) {
            return check.below(3) == 0 ? number(check.below(check.coin() ? 10000 : 12)) : makeVar(barred);
        }
        return new Sum("+-*/%&".charAt(check.below(6)), 0, makeSum(deep + 1, barred), makeSum(deep + 1, barred));
    }

    private Sum makeTest() {
        return new Sum("=<>!".charAt(check.below(4)), 0, makeSum(1, -1), makeSum(1, -1));
    }

    private void show(List<Step> body, StringBuilder text) {
        for (Step s : body) {
            text.append(s.kind).append(' ');
            switch (s.kind) {
                case "add": case "sub": case "xor": case "swap":
                    text.append(show(s.left)).append(' ').append(show(s.right));
                    break;
                case "call": case "uncall":
                    text.append(NAMES[s.proc]);
                    break;
                default:
                    boolean fork = s.kind.equals("if");
                    text.append(show(s.test)).append(fork ? " then " : " do ");
                    show(s.one, text);
                    text.append(fork ? "else " : "loop ");
                    show(s.two, text);
                    text.append(fork ? "fi " : "until ").append(show(s.last));
                    break;
            }
            text.append(check.coin() ? ";" : " ;\n");
        }
    }

    /** Brackets stand where the tree needs them, since all goes from the left on. */
    private String show(Sum s) {
        switch (s.sign) {
            case 'n': return "" + s.number;
            case 'v': return "" + (char) ('a' + s.number);
            case 'z': return "z[" + show(s.left) + "]";
            default:
                boolean bare = "nvz".indexOf(s.right.sign) >= 0;
                return show(s.left) + s.sign + (bare || "=<>!".indexOf(s.sign) >= 0 ? show(s.right) : "(" + show(s.right) + ")");
        }
    }

    private int own(int p, boolean back) {
        int[] before = values.clone();
        counted = 0;
        try {
            all(procs.get(p), back, 0);
            return 0;
        } catch (Trouble t) {
            values = before;
            return t.kind;
        }
    }

    private void count() {
        if (++counted > 5000) {
            throw new Trouble(3);
        }
    }

    private void all(List<Step> body, boolean back, int calls) {
        for (int i = 0; i < body.size(); i++) {
            one(body.get(back ? body.size() - 1 - i : i), back, calls);
        }
    }

    private void one(Step s, boolean back, int calls) {
        count();
        switch (s.kind) {
            case "add": change(s.left, back ? -of(s.right) : of(s.right)); break;
            case "sub": change(s.left, back ? of(s.right) : -of(s.right)); break;
            case "xor": change(s.left, (of(s.left) ^ of(s.right)) - of(s.left)); break;
            case "swap":
                int a = of(s.left);
                int b = of(s.right);
                change(s.left, b - a);
                change(s.right, a - b);
                break;
            case "call": case "uncall":
                if (calls == 20) {
                    throw new Trouble(4);
                }
                all(procs.get(s.proc), back != s.kind.equals("uncall"), calls + 1);
                break;
            case "if":
                boolean first = of(back ? s.last : s.test) == 1;
                all(first ? s.one : s.two, back, calls);
                must((of(back ? s.test : s.last) == 1) == first);
                break;
            default:
                Sum start = back ? s.last : s.test;
                Sum stop = back ? s.test : s.last;
                must(of(start) == 1);
                all(s.one, back, calls);
                while (of(stop) != 1) {
                    count();
                    all(s.two, back, calls);
                    must(of(start) != 1);
                    all(s.one, back, calls);
                }
                break;
        }
    }

    private static void must(boolean holds) {
        if (!holds) {
            throw new Trouble(1);
        }
    }

    private int at(Sum var) {
        if (var.sign == 'v') {
            return var.number;
        }
        int place = of(var.left);
        if (place < 0 || place > 9) {
            throw new Trouble(2);
        }
        return 10 + place;
    }

    private void change(Sum var, int by) {
        values[at(var)] += by;
    }

    private int of(Sum s) {
        switch (s.sign) {
            case 'n': return s.number;
            case 'v': case 'z': return values[at(s)];
            default: break;
        }
        long a = of(s.left);
        long b = of(s.right);
        switch (s.sign) {
            case '+': return (int) (a + b);
            case '-': return (int) (a - b);
            case '*': return (int) (a * b);
            case '/': return b == 0 ? 0 : (int) (a / b);
            case '%': return b == 0 ? 0 : (int) (a % b);
            case '&': return (int) (a & b);
            case '=': return a == b ? 1 : 0;
            case '<': return a < b ? 1 : 0;
            case '>': return a > b ? 1 : 0;
            default: return a != b ? 1 : 0;
        }
    }
}
