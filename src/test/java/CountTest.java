/** Promise 35 (count): each number as calls change it, and NONE for all others. */
final class CountTest {
    public static void main(String[] args) {
        MarbleFloor x = new MarbleFloor();
        int[] bad = {-1, 9, 10, Integer.MIN_VALUE, Integer.MAX_VALUE};
        for (int what : bad) {
            Check.due("count(" + what + ")", x.count(what), -1);
        }
        Check.program(x, "proc aa is end; proc bb is end; proc cc is end;");
        Check.due("procs", x.count(0), 3);
        x.table(7, 9);
        x.part(3, 3, 3);
        x.ball(3, 3, 0, true);
        x.ball(3, 3, 2, true);
        x.ball(0, 0, 0, true);
        Check.due("balls", x.count(3), 3);
        x.beat(1);
        Check.due("heat", x.count(1), 2);
        Check.due("balls", x.count(3), 1);
        Check.due("undoable", x.count(2), 0);
        x.beat(490);
        x.beat(500);
        Check.due("undoable", x.count(2), 990);
        x.back(90);
        Check.due("undoable", x.count(2), 900);
        Check.due("wide", x.count(4), 7);
        Check.due("high", x.count(5), 9);
        Check.due("seen", x.count(6), 0);
        x.watch(0);
        x.see(0, 0, 0);
        x.see(0, 1, 1);
        x.right(0, 1, 0);
        Check.due("seen", x.count(6), 2);
        Check.due("right", x.count(7), 1);
        x.feed(0, 0, 0, 0, 0);
        Check.due("bytes", x.count(8), 20);
        x.end(7);
        Check.due("bytes", x.count(8), 7);
        x.program();
        Check.due("bytes", x.count(8), 0);
        Check.due("procs stay", x.count(0), 3);
        manyBeats();
        Check.finish("CountTest");
    }

    private static void manyBeats() {
        MarbleFloor x = new MarbleFloor();
        for (int n = 0; n < 500; n++) {
            x.beat(500);
        }
        Check.due("undoable", x.count(2), 250000);
    }
}
