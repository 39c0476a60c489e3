import java.util.ArrayDeque;
import java.util.Deque;
import java.util.HashSet;
import java.util.Set;
import java.util.regex.Matcher;
import java.util.regex.Pattern;

/** A second reader: what may come is a stack of signs; a sign's first letter tells what is asked of its token. */
final class SecondReader {
    static final Pattern TOKEN = Pattern.compile("[a-z]+|[0-9]+|[^a-z0-9 \n]");
    private static final Set<String> KEYS = Set.of("proc", "is", "end", "add", "sub", "xor", "swap", "if", "then", "else",
        "fi", "from", "do", "loop", "until", "call", "uncall");

    private final String text;
    private final Deque<String> stack = new ArrayDeque<>();
    private final Set<String> names = new HashSet<>();
    private final Set<String> called = new HashSet<>();
    private final Set<Integer> lanesTaken = new HashSet<>();
    private int lanes;
    private int steps;
    private int open;
    private int brackets;
    private int atoms;
    private String changed = "";
    private String first = "";
    private String firstPlace = "";

    SecondReader(String text) {
        this.text = text;
    }

    int[] read(boolean program) {
        push(program ? "PROCS $" : "lanes #lanes ; STEPS $");
        int at = 0;
        while (true) {
            while (at < text.length() && (text.charAt(at) == ' ' || text.charAt(at) == '\n')) {
                at++;
            }
            Matcher m = TOKEN.matcher(text);
            String token = m.find(at) ? m.group() : "$";
            int place = token.equals("$") ? text.length() : at;
            int fault = take(token);
            if (fault != 0) {
                return new int[] {fault, place};
            }
            if (token.equals("$")) {
                return called.isEmpty() || names.containsAll(called) ? new int[] {0, -1} : new int[] {5, place};
            }
            at += token.length();
        }
    }

    private void push(String signs) {
        String[] all = signs.split(" ");
        for (int i = all.length - 1; i >= 0; i--) {
            if (!all[i].isEmpty()) {
                stack.push(all[i]);
            }
        }
    }

    private int take(String token) {
        if (token.matches("[a-z]{9,}|[0-9]{5,}")) {
            return 1;
        }
        while (true) {
            String sign = stack.pop();
            if (sign.startsWith("@")) {
                act(sign);
            } else if (sign.matches("[A-Z]+")) {
                String next = expand(sign, token);
                if (next == null) {
                    return 1;
                }
                push(next);
            } else {
                return match(sign, token);
            }
        }
    }

    private void act(String sign) {
        switch (sign) {
            case "@sum": atoms = 0; break;
            case "@free": changed = ""; break;
            case "@close": open--; break;
            case "@shut": brackets--; break;
            default: lanesTaken.clear(); break;
        }
    }

    private static boolean isNumber(String token) {
        return token.matches("[0-9]+");
    }

    private String expand(String sign, String token) {
        boolean var = token.matches("[a-hz]");
        switch (sign) {
            case "STEPS":
                return token.equals("turn") ? "!turn #lane IFS ; @lanes STEPS"
                    : token.equals("swap") ? "!swap #lane #lane IFS ; @lanes STEPS" : "";
            case "IFS": return token.equals("if") ? "if #lane IFS" : "";
            case "PROCS": return token.equals("proc") ? "~proc %name is BODY end ; PROCS" : "";
            case "BODY": return token.matches("add|sub|xor|swap|if|from|call|uncall") ? "STEP ; BODY" : "";
            case "STEP":
                switch (token) {
                    case "swap": return "!swap FIRST SECOND";
                    case "if": return "!if TEST then BODY else BODY fi TEST @close";
                    case "from": return "!from TEST do BODY loop BODY until TEST @close";
                    case "call": return "!call %called";
                    case "uncall": return "!uncall %called";
                    default: return "!" + token + " CHANGED @sum SUM @free";
                }
            case "CHANGED": return !var ? null : token.equals("z") ? "=changed [ =cplace ]" : "=changed";
            case "FIRST": return !var ? null : token.equals("z") ? "=first [ =fplace ]" : "=first";
            case "SECOND": return !var ? null : token.equals("z") ? "=second [ =splace ]" : "=second";
            case "TEST": return "@sum SUM =rel @sum SUM";
            case "SUM": return "FACTOR REST";
            case "REST": return token.matches("[-+*/%&]") ? token + " FACTOR REST" : "";
            default:
                return token.equals("(") ? "( SUM ) @shut" : isNumber(token) ? "=atom"
                    : !var ? null : token.equals("z") ? "=atom [ =aplace ]" : "=atom";
        }
    }

    private int match(String sign, String token) {
        String name = sign.length() > 1 ? sign.substring(1) : sign;
        if (sign.equals("#lanes")) {
            lanes = isNumber(token) ? Integer.parseInt(token) : 0;
            return !isNumber(token) ? 1 : lanes < 1 || lanes > 8 ? 2 : 0;
        }
        if (sign.equals("#lane")) {
            return !isNumber(token) ? 1 : Integer.parseInt(token) >= lanes ? 2 : lanesTaken.add(Integer.parseInt(token)) ? 0 : 3;
        }
        if (sign.startsWith("%") && sign.length() > 1) {
            if (!token.matches("[a-z]{2,8}") || KEYS.contains(token)) {
                return 1;
            }
            return name.equals("called") ? called.add(token) ? 0 : 0 : names.add(token) ? 0 : 3;
        }
        if (sign.startsWith("!") && sign.length() > 1) {
            return step(token);
        }
        if (sign.equals("~proc")) {
            return names.size() == 6 ? 4 : 0;
        }
        if (sign.startsWith("=") && sign.length() > 1) {
            return value(name, token);
        }
        if (sign.equals("(")) {
            return ++brackets > 6 ? 4 : 0;
        }
        return sign.equals(token) ? 0 : 1;
    }

    private int step(String token) {
        steps++;
        if (lanes > 0) {
            return steps > 40 ? 4 : 0;
        }
        open += token.equals("if") || token.equals("from") ? 1 : 0;
        return steps > 60 || open > 6 ? 4 : 0;
    }

    private int value(String name, String token) {
        if (name.endsWith("place")) {
            if (isNumber(token)) {
                firstPlace = name.equals("fplace") ? "" : firstPlace;
                return Integer.parseInt(token) > 9 ? 2 : 0;
            }
            if (!token.matches("[a-h]")) {
                return 1;
            }
            firstPlace = name.equals("fplace") ? token : firstPlace;
            return name.equals("aplace") && token.equals(changed) || name.equals("splace") && token.equals(first) ? 3 : 0;
        }
        switch (name) {
            case "rel":
                return token.matches("[=<>!]") ? 0 : 1;
            case "changed":
                changed = token;
                return 0;
            case "first":
                first = token;
                firstPlace = "";
                return 0;
            case "second":
                return token.equals(first) || token.equals(firstPlace) ? 3 : 0;
            default:
                atoms++;
                return token.equals(changed) ? 3 : atoms > 12 ? 4 : 0;
        }
    }
}
