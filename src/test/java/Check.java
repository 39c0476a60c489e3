import java.nio.charset.StandardCharsets;

/** What all tests share: comparing answers, feeding texts, and numbers that look random but are always the same. */
final class Check {
    private static final int SHOWN = 20;
    // So many wrong answers tell enough; a class that is this wrong may also be too slow to wait for.
    private static final int ENOUGH = 1000;
    private static int wrong = 0;
    private static int right = 0;
    private static String context = "";
    private static final long LONGEST_MILLIS = 600_000;
    private long seed;

    static {
        // A call that doesn't end is a wrong answer, too; no test needs a tenth of this time.
        Thread watch = new Thread(Check::endLate);
        watch.setDaemon(true);
        watch.start();
    }

    Check(long seed) {
        this.seed = seed;
    }

    private static void endLate() {
        try {
            Thread.sleep(LONGEST_MILLIS);
        } catch (InterruptedException e) {
            return;
        }
        System.out.println(context + "a call does not end");
        Runtime.getRuntime().halt(1);
    }

    /** What the next answers belong to; it is told with each wrong one. */
    static void within(String what) {
        context = what + ": ";
    }

    static void due(String call, long got, long want) {
        if (got == want) {
            right++;
            return;
        }
        isWrong(call + " answered " + got + ", due is " + want);
    }

    static void dueText(String what, String got, String want) {
        if (got.equals(want)) {
            right++;
            return;
        }
        isWrong(what + " is " + got + ", due is " + want);
    }

    private static void isWrong(String told) {
        wrong++;
        if (wrong <= SHOWN) {
            System.out.println(context + told);
        }
        if (wrong == ENOUGH) {
            System.out.println(context + wrong + " answers are wrong, the others are not looked at");
            System.exit(1);
        }
    }

    static void finish(String name) {
        System.out.println(name + ": " + right + " answers as due, " + wrong + " not");
        if (wrong != 0) {
            System.exit(1);
        }
    }

    /** The tape holds just this text then. */
    static void feed(MarbleFloor x, String text) {
        byte[] bytes = text.getBytes(StandardCharsets.ISO_8859_1);
        int before = x.count(8);
        for (int at = 0; at < bytes.length; at += 20) {
            int[] five = new int[5];
            for (int i = 0; i < 20; i++) {
                int b = at + i < bytes.length ? bytes[at + i] & 255 : 0;
                five[i / 4] |= b << 24 - 8 * (i % 4);
            }
            if (x.feed(five[0], five[1], five[2], five[3], five[4]) < 0) {
                throw new IllegalStateException("no room on the tape for " + text);
            }
        }
        x.end(before + bytes.length);
    }

    static int floor(MarbleFloor x, int f, String text) {
        feed(x, text);
        return x.floor(f);
    }

    static int program(MarbleFloor x, String text) {
        feed(x, text);
        return x.program();
    }

    /** The FLOOR as text again, with one blank between all tokens. */
    static String show(MarbleFloor x, int f) {
        StringBuilder text = new StringBuilder("lanes " + x.step(f, 0, 1) + ";");
        for (int i = 0; x.step(f, i, 0) >= 0; i++) {
            text.append(x.step(f, i, 0) == 0 ? " turn " : " swap ").append(x.step(f, i, 2));
            if (x.step(f, i, 0) == 1) {
                text.append(' ').append(x.step(f, i, 3));
            }
            for (int lane = 0; lane < 8; lane++) {
                if ((x.step(f, i, 4) >> lane & 1) != 0) {
                    text.append(" if ").append(lane);
                }
            }
            text.append(';');
        }
        return text.toString();
    }

    int below(int n) {
        seed = seed * 6364136223846793005L + 1442695040888963407L;
        return (int) ((seed >>> 33) % n);
    }

    int anyInt() {
        return below(1 << 16) << 16 | below(1 << 16);
    }

    boolean coin() {
        return below(2) == 0;
    }

    /** A FLOOR's text with so many lanes and STEPS. */
    String floorText(int lanes, int steps) {
        StringBuilder text = new StringBuilder("lanes " + lanes + ";");
        for (int i = 0; i < steps; i++) {
            boolean swap = lanes > 1 && coin();
            int first = below(lanes);
            int taken = 1 << first;
            text.append(swap ? "swap " : "turn ").append(first);
            if (swap) {
                int second = (first + 1 + below(lanes - 1)) % lanes;
                taken |= 1 << second;
                text.append(' ').append(second);
            }
            int ifs = below(1 << lanes) & below(1 << lanes) & ~taken;
            for (int lane = lanes - 1; lane >= 0; lane--) {
                if ((ifs >> lane & 1) != 0) {
                    text.append("if ").append(lane);
                }
            }
            text.append(';');
        }
        return text.toString();
    }
}
