import java.util.ArrayList;
import java.util.HashMap;
import java.util.List;
import java.util.Map;

/** Promises 28 (trail) and 29 (move), for all n and k, against a search from the empty row on. */
final class TrailTest {
    public static void main(String[] args) {
        MarbleFloor x = new MarbleFloor();
        Check.due("move ahead of any", x.move(0), -1);
        String latest = "";
        for (int n = 1; n <= 12; n++) {
            for (int k = 12; k >= 1; k--) {
                String want = search(n, k);
                Check.due("trail(" + n + ", " + k + ")", x.trail(n, k), want == null ? -1 : want.length());
                latest = want == null ? latest : want;
                Check.dueText("moves of " + n + ", " + k, moves(x), latest);
                Check.due("move(-1)", x.move(-1), -1);
                Check.due("move behind the last", x.move(latest.length()), -1);
            }
        }
        int[][] bad = {{0, 1}, {1, 0}, {13, 12}, {12, 13}, {-1, -1}, {Integer.MAX_VALUE, Integer.MIN_VALUE}};
        for (int[] b : bad) {
            Check.due("trail", x.trail(b[0], b[1]), -2);
        }
        Check.dueText("moves stay", moves(x), latest);
        Check.due("move of any int", x.move(Integer.MAX_VALUE), -1);
        Check.due("move of any int", x.move(Integer.MIN_VALUE), -1);
        Check.finish("TrailTest");
    }

    private static String moves(MarbleFloor x) {
        StringBuilder told = new StringBuilder();
        for (int i = 0; x.move(i) != -1; i++) {
            told.append((char) ('a' + x.move(i)));
        }
        return told.toString();
    }

    /** Rows of MOVES in the order of length and then of places: the first that comes to the goal is the one. */
    private static String search(int n, int k) {
        String goal = "0".repeat(n - 1) + "1";
        Map<String, String> rows = new HashMap<>();
        List<String> queue = new ArrayList<>();
        queue.add("0".repeat(n));
        rows.put(queue.get(0), "");
        for (int i = 0; i < queue.size() && !rows.containsKey(goal); i++) {
            String now = queue.get(i);
            for (int place = 1; place <= n; place++) {
                if (place > 1 && now.charAt(place - 2) == '0') {
                    continue;
                }
                char turned = now.charAt(place - 1) == '0' ? '1' : '0';
                String next = now.substring(0, place - 1) + turned + now.substring(place);
                if (next.chars().filter(c -> c == '1').count() <= k && !rows.containsKey(next)) {
                    rows.put(next, rows.get(now) + (char) ('a' + place));
                    queue.add(next);
                }
            }
        }
        return rows.get(goal);
    }
}
