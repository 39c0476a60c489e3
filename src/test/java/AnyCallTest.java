import java.lang.management.ManagementFactory;

/** No call throws, whatever it is given in whatever state; and a run of 512 calls stays small in the one room. */
final class AnyCallTest {
    private static final int[] NUMBERS = {Integer.MIN_VALUE, -1000, -3, -2, -1, 0, 1, 2, 3, 4, 5, 6, 7, 8, 9, 10, 11, 12, 13, 15,
        19, 20, 21, 31, 32, 40, 41, 63, 64, 127, 128, 255, 256, 499, 500, 501, 900, 901, 999, 1000, Integer.MAX_VALUE};
    // Objects of one run share a room of some millions of elements; an element is eight bytes at most.
    private static final long MOST_BYTES = 2_000_000;

    public static void main(String[] args) {
        for (int seed = 0; seed < 400; seed++) {
            any(new Check(seed));
        }
        for (int what = 0; what < 9; what++) {
            stayingSmall(what);
        }
        Check.finish("AnyCallTest");
    }

    private static void any(Check check) {
        MarbleFloor x = new MarbleFloor();
        for (int n = 0; n < 512; n++) {
            try {
                call(x, check);
            } catch (RuntimeException | StackOverflowError e) {
                e.printStackTrace(System.out);
                Check.due("a call that throws nothing", 0, 1);
                return;
            }
        }
        Check.due("a run of calls that throw nothing", 1, 1);
    }

    private static int number(Check check) {
        return check.below(20) == 0 ? check.anyInt() : check.coin() ? check.below(6) : NUMBERS[check.below(NUMBERS.length)];
    }

    private static void call(MarbleFloor x, Check check) {
        int a = number(check);
        int b = number(check);
        int c = number(check);
        switch (check.below(36)) {
            case 0: x.feed(check.anyInt(), a, b, c, check.anyInt()); break;
            case 1: x.end(a); break;
            case 2: feedFloor(x, check); x.floor(a); break;
            case 3: x.fault(a); break;
            case 4: x.step(a, b, c); break;
            case 5: x.out(a, b, check.coin()); break;
            case 6: x.odd(a); break;
            case 7: x.cycle(a, b); break;
            case 8: x.order(a); break;
            case 9: x.apart(a, b); break;
            case 10: x.least(a, b, c); break;
            case 11: x.lay(a, b); break;
            case 12: x.roll(a, b, c); break;
            case 13: x.chain(a, b, c); break;
            case 14: feedProgram(x, check); x.program(); break;
            case 15: x.let(a, check.anyInt()); break;
            case 16: x.value(a); break;
            case 17: x.run(a, check.coin()); break;
            case 18: x.trouble(a); break;
            case 19: x.table(a, b); break;
            case 20: x.part(a, b, c); break;
            case 21: x.ball(a, b, c, check.coin()); break;
            case 22: x.cell(a, b); break;
            case 23: x.beat(a); break;
            case 24: x.back(a); break;
            case 25: x.round(); break;
            case 26: x.trail(a, b); break;
            case 27: x.move(a); break;
            case 28: x.watch(a); break;
            case 29: x.see(a, b, c); break;
            case 30: x.right(a, b, c); break;
            case 31: x.fit(a); break;
            case 32: x.look(); break;
            case 33: x.count(a); break;
            case 34: x.floor(a); break;
            default: x.program(); break;
        }
    }

    private static void feedFloor(MarbleFloor x, Check check) {
        x.end(check.below(3) == 0 ? x.count(8) : 0);
        if (x.count(8) < 100) {
            Check.feed(x, check.floorText(check.coin() ? 3 : 1 + check.below(8), check.below(16)));
        }
    }

    private static void feedProgram(MarbleFloor x, Check check) {
        String[] texts = {"proc aa is call aa; end;", "proc aa is from a=0 do add a b; loop call bb; until a>c; end; proc bb is swap d z[e]; end;",
            "proc aa is if a<b/c%d then xor e a*f; else uncall aa; fi z[g]=z[h]; end;", "proc aa is add z[a] b; sub b z[a]; end;",
            "proc aa is add a ((((((b)))))); from z[b]!0 do loop until 0>1; end;"};
        x.end(0);
        Check.feed(x, texts[check.below(texts.length)]);
    }

    /** 512 calls of the dear kinds, counted in bytes behind the object's making. */
    private static void stayingSmall(int what) {
        com.sun.management.ThreadMXBean threads = (com.sun.management.ThreadMXBean) ManagementFactory.getThreadMXBean();
        MarbleFloor x = new MarbleFloor();
        Check check = new Check(what);
        long thread = Thread.currentThread().getId();
        long made = 0;
        for (int n = 0; n < 170; n++) {
            Check.floor(x, 0, what == 1 ? check.floorText(8, 25) : check.floorText(3, 12));
            Check.program(x, "proc aa is from a=0 do add a 1+(2*3)-6; loop call bb; until a=900; sub a 900; end; proc bb is xor b a; end;");
            x.ball(n % 4, n % 3, n % 4, true);
            long before = threads.getThreadAllocatedBytes(thread);
            dear(x, what, n);
            made += threads.getThreadAllocatedBytes(thread) - before;
        }
        Check.due("bytes made by calls of kind " + what + ": " + made, made < MOST_BYTES ? 1 : 0, 1);
    }

    private static void dear(MarbleFloor x, int what, int n) {
        switch (what) {
            case 0: x.least(0, n % 32, 1); break;
            case 1: x.watch(0); x.see(0, 0, 0); x.fit(3); x.look(); break;
            case 2: x.trail(12, 1 + n % 12); break;
            case 3: x.round(); break;
            case 4: x.beat(500); x.back(1); break;
            case 5: x.run(0, false); break;
            case 6: x.lay(0, 1); x.order(0); x.odd(0); x.cycle(0, 1); x.apart(0, 1); break;
            case 7: x.roll(0, 1, 1); x.chain(0, 0, 1); break;
            default: x.feed(1, 2, 3, 4, 5); x.floor(0); x.program(); break;
        }
    }
}
