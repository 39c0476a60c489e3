/** Promises 1 (a new object), 2 (feed), 3 (end), and what empties THE TAPE. */
final class TapeTest {
    public static void main(String[] args) {
        newObject();
        feedAndEnd();
        whatEmpties();
        bytesInOrder();
        Check.finish("TapeTest");
    }

    private static void newObject() {
        MarbleFloor x = new MarbleFloor();
        for (int f = 0; f < 6; f++) {
            Check.dueText("new floor " + f, Check.show(x, f), "lanes 1;");
            Check.due("new out", x.out(f, 0, false), 0);
            Check.due("new out", x.out(f, 1, true), 1);
        }
        int[] counts = {0, 0, 0, 0, 4, 4, 0, 0, 0};
        for (int what = 0; what < counts.length; what++) {
            Check.due("new count(" + what + ")", x.count(what), counts[what]);
        }
        for (int v = -1; v <= 20; v++) {
            boolean is = v >= 0 && v <= 7 || v >= 10 && v <= 19;
            Check.due("new value(" + v + ")", x.value(v), is ? 0 : -2000000000);
        }
        for (int y = 0; y < 4; y++) {
            for (int row = 0; row < 4; row++) {
                Check.due("new cell", x.cell(row, y), 0);
                Check.due("new part", x.part(row, y, 0), 0);
            }
        }
        Check.due("cell(4, 0)", x.cell(4, 0), MarbleFloor.RANGE);
        Check.due("cell(0, 4)", x.cell(0, 4), MarbleFloor.RANGE);
        Check.due("new fault(0)", x.fault(0), 0);
        Check.due("new fault(1)", x.fault(1), -1);
        Check.due("new trouble(0)", x.trouble(0), 0);
        Check.due("new trouble(1)", x.trouble(1), 0);
        Check.due("new run", x.run(0, false), -2);
        Check.due("new back", x.back(1), -4);
        Check.due("new move", x.move(0), -1);
        Check.due("new look", x.look(), -4);
        Check.due("new fit", x.fit(0), -4);
    }

    private static void feedAndEnd() {
        MarbleFloor x = new MarbleFloor();
        Check.due("end(0) empty", x.end(0), 0);
        Check.due("end(1) empty", x.end(1), -1);
        for (int n = 1; n <= 45; n++) {
            Check.due("feed", x.feed(0, -1, 1, 2, 3), 20L * n);
        }
        Check.due("feed over 900", x.feed(0, 0, 0, 0, 0), MarbleFloor.FULL);
        Check.due("bytes stay", x.count(8), 900);
        Check.due("end(901)", x.end(901), -1);
        Check.due("end(-1)", x.end(-1), -1);
        Check.due("end(900)", x.end(900), 900);
        Check.due("end(881)", x.end(881), 881);
        Check.due("feed to 901", x.feed(0, 0, 0, 0, 0), -3);
        Check.due("end(880)", x.end(880), 880);
        Check.due("feed to 900", x.feed(0, 0, 0, 0, 0), 900);
        Check.due("end(3)", x.end(3), 3);
        Check.due("feed behind 3", x.feed(0, 0, 0, 0, 0), 23);
        Check.due("end(24)", x.end(24), -1);
        Check.due("end does not empty", x.count(8), 23);
    }

    private static void whatEmpties() {
        MarbleFloor x = new MarbleFloor();
        Check.feed(x, "lanes 2;");
        Check.due("floor(-1)", x.floor(-1), -2);
        Check.due("emptied by RANGE", x.count(8), 0);
        Check.due("no fault by RANGE", x.fault(0), 0);
        Check.feed(x, "lanes");
        Check.due("floor with a fault", x.floor(0), -1);
        Check.due("emptied by a fault", x.count(8), 0);
        Check.feed(x, "lanes 2;");
        Check.due("floor", x.floor(0), 0);
        Check.due("emptied by floor", x.count(8), 0);
        Check.feed(x, "proc");
        Check.due("program with a fault", x.program(), -1);
        Check.due("emptied by program's fault", x.count(8), 0);
        Check.feed(x, "proc aa is end;");
        Check.due("program", x.program(), 1);
        Check.due("emptied by program", x.count(8), 0);
        Check.due("end behind it", x.end(1), -1);
    }

    private static void bytesInOrder() {
        MarbleFloor x = new MarbleFloor();
        x.feed(0x6c616e65, 0x73203320, 0x3b747572, 0x6e203220, 0x69662031);
        x.feed(0x3b000000, 0, 0, 0, 0);
        Check.due("end(21)", x.end(21), 21);
        Check.due("floor(4)", x.floor(4), 1);
        Check.dueText("floor 4", Check.show(x, 4), "lanes 3; turn 2 if 1;");
    }
}
