import java.util.Arrays;

/**
 * Floors of lanes, programs, cells, trails and cracks whose every step can be undone.
 * The document's numbered promises say what each call answers.
 */
public final class MarbleFloor {
    public static final int NONE = -1;
    public static final int RANGE = -2;
    public static final int FULL = -3;
    public static final int STATE = -4;

    private static final int NO_VALUE = -2000000000;

    private static final int SYNTAX = 1;
    private static final int OUT_OF_BOUNDS = 2;
    private static final int TWICE = 3;
    private static final int ROOM = 4;
    private static final int UNKNOWN = 5;

    private static final int FLOORS = 6;
    private static final int MOST_LANES = 8;
    private static final int MOST_ROWS = 256;
    private static final int MOST_STEPS = 40;
    private static final int TURN = 0;
    private static final int SWAP = 1;

    private static final int MOST_PROCS = 6;
    private static final int MOST_PROGRAM_STEPS = 60;
    private static final int MOST_OPEN = 6;
    private static final int MOST_ATOMS = 12;
    private static final int MOST_COUNTED = 5000;
    private static final int MOST_CALLS = 20;
    private static final int VALUES = 20;
    private static final int LETTERS = 8;
    private static final int Z = 8;
    private static final int FIRST_PLACE = 10;
    private static final int PLACES = 10;

    // The WORDS' numbers in Tape.WORDS; up to KEY_UNTIL they are those of PROGRAMS.
    private static final int KEY_ADD = 0;
    private static final int KEY_SUB = 1;
    private static final int KEY_XOR = 2;
    private static final int KEY_SWAP = 3;
    private static final int KEY_IF = 4;
    private static final int KEY_FROM = 5;
    private static final int KEY_CALL = 6;
    private static final int KEY_UNCALL = 7;
    private static final int KEY_PROC = 8;
    private static final int KEY_IS = 9;
    private static final int KEY_END = 10;
    private static final int KEY_THEN = 11;
    private static final int KEY_ELSE = 12;
    private static final int KEY_FI = 13;
    private static final int KEY_DO = 14;
    private static final int KEY_LOOP = 15;
    private static final int KEY_UNTIL = 16;
    private static final int KEY_LANES = 17;
    private static final int KEY_TURN = 18;

    private final Tape tape = new Tape();
    private final Floor[] floors = new Floor[FLOORS];
    private final Floor spareFloor = new Floor();
    private final FloorReader floorReader = new FloorReader(tape);
    private final Tables tables = new Tables();
    private final Shortest shortest = new Shortest();
    private Program current = new Program();
    private Program spareProgram = new Program();
    private final ProgramReader programReader = new ProgramReader(tape, spareProgram);
    private final Machine machine = new Machine(current);
    private final Cells cells = new Cells();
    private final Trails trails = new Trails();
    private final Cracks cracks = new Cracks();

    public MarbleFloor() {
        for (int f = 0; f < FLOORS; f++) {
            floors[f] = new Floor();
        }
    }

    public int feed(int a, int b, int c, int d, int e) {
        return tape.take(a, b, c, d, e);
    }

    public int end(int n) {
        return tape.cutTo(n);
    }

    // ---- floors

    public int floor(int f) {
        if (noFloor(f)) {
            tape.empty();
            return RANGE;
        }
        boolean fine = floorReader.readInto(spareFloor);
        tape.empty();
        if (!fine) {
            return NONE;
        }
        return settle(f);
    }

    public int fault(int what) {
        if (what == 0) {
            return tape.faultKind();
        }
        if (what == 1) {
            return tape.faultPlace();
        }
        return NONE;
    }

    public int step(int f, int i, int what) {
        return noFloor(f) ? NONE : floors[f].tell(i, what);
    }

    public int out(int f, int row, boolean back) {
        if (noFloor(f) || floors[f].hasNoRow(row)) {
            return RANGE;
        }
        return floors[f].outOf(row, back);
    }

    public int odd(int f) {
        return noFloor(f) ? RANGE : tables.oddness(floors[f]);
    }

    public int cycle(int f, int row) {
        if (noFloor(f) || floors[f].hasNoRow(row)) {
            return RANGE;
        }
        return floors[f].runsTillThereAgain(row);
    }

    public long order(int f) {
        return noFloor(f) ? RANGE : tables.runsTillAllAreThere(floors[f]);
    }

    public int apart(int f, int g) {
        if (noFloor(f) || noFloor(g)) {
            return RANGE;
        }
        if (floors[f].lanes() != floors[g].lanes()) {
            return STATE;
        }
        return floors[f].leastRowUnlike(floors[g]);
    }

    public int least(int f, int kinds, int to) {
        if (noFloor(f) || noFloor(to) || kinds < 0 || kinds > 31) {
            return RANGE;
        }
        if (floors[f].lanes() != Shortest.LANES) {
            return STATE;
        }
        if (!shortest.find(floors[f], kinds, spareFloor)) {
            return NONE;
        }
        return settle(to);
    }

    public int lay(int f, int to) {
        if (noFloor(f) || noFloor(to)) {
            return RANGE;
        }
        if (!tables.layInto(floors[f], spareFloor)) {
            return FULL;
        }
        return settle(to);
    }

    public int roll(int f, int lanes, int to) {
        if (noFloor(f) || noFloor(to) || lanes < 1 || floors[f].hasNoRow(lanes)) {
            return RANGE;
        }
        Floor from = floors[f];
        int copied = Integer.bitCount(lanes);
        if (from.lanes() + copied > MOST_LANES || 2 * from.steps() + copied > MOST_STEPS) {
            return FULL;
        }
        spareFloor.layRolled(from, lanes);
        return settle(to);
    }

    public int chain(int f, int g, int to) {
        if (noFloor(f) || noFloor(g) || noFloor(to)) {
            return RANGE;
        }
        if (floors[f].steps() + floors[g].steps() > MOST_STEPS) {
            return FULL;
        }
        spareFloor.layChained(floors[f], floors[g]);
        return settle(to);
    }

    // ---- programs

    public int program() {
        boolean fine = programReader.readInto(spareProgram);
        tape.empty();
        if (!fine) {
            return NONE;
        }
        Program old = current;
        current = spareProgram;
        spareProgram = old;
        return current.procs();
    }

    public int let(int v, int n) {
        if (Machine.hasNoValue(v)) {
            return NO_VALUE;
        }
        return machine.put(v, n);
    }

    public int value(int v) {
        return Machine.hasNoValue(v) ? NO_VALUE : machine.valueOf(v);
    }

    public int run(int p, boolean back) {
        if (p < 0 || p >= current.procs()) {
            return RANGE;
        }
        return machine.perform(current, p, back);
    }

    public int trouble(int what) {
        if (what == 0) {
            return machine.latestTrouble();
        }
        if (what == 1) {
            return machine.latestCounted();
        }
        return NONE;
    }

    // ---- cells

    public int table(int wide, int high) {
        if (wide < Cells.LEAST_SIDE || wide > Cells.MOST_SIDE || high < Cells.LEAST_SIDE || high > Cells.MOST_SIDE) {
            return RANGE;
        }
        cells.clear(wide, high);
        return 1;
    }

    public int part(int x, int y, int kind) {
        if (cells.hasNoCell(x, y) || kind < 0 || kind >= Cells.KINDS) {
            return RANGE;
        }
        return cells.putPart(x, y, kind);
    }

    public int ball(int x, int y, int way, boolean there) {
        if (cells.hasNoCell(x, y) || way < 0 || way >= Cells.WAYS) {
            return RANGE;
        }
        return cells.putBall(x, y, way, there);
    }

    public int cell(int x, int y) {
        return cells.hasNoCell(x, y) ? RANGE : cells.ballsAt(x, y);
    }

    public int beat(int n) {
        if (n < 1 || n > Cells.MOST_BEATS) {
            return RANGE;
        }
        cells.goOn(n);
        return cells.balls();
    }

    public int back(int n) {
        if (n < 1 || n > Cells.MOST_BEATS) {
            return RANGE;
        }
        if (n > cells.undoable()) {
            return STATE;
        }
        cells.goBack(n);
        return cells.balls();
    }

    public int round() {
        return cells.beatsTillAsNow();
    }

    // ---- trails

    public int trail(int n, int k) {
        if (n < 1 || n > Trails.MOST_PLACES || k < 1 || k > Trails.MOST_PLACES) {
            return RANGE;
        }
        return trails.fewestMoves(n, k);
    }

    public int move(int i) {
        return trails.moveAt(i);
    }

    // ---- cracks

    public int watch(int f) {
        if (noFloor(f)) {
            return RANGE;
        }
        cracks.begin(floors[f]);
        return floors[f].steps();
    }

    public int see(int told, int row, int out) {
        return cracks.addSeen(told, row, out);
    }

    public int right(int told, int k, int out) {
        return cracks.putRight(told, k, out);
    }

    public long fit(int known) {
        if (known < 0 || known > Cracks.LAST_TOLD) {
            return RANGE;
        }
        return cracks.watching() ? cracks.fitting(known) : STATE;
    }

    public int look() {
        return cracks.watching() ? cracks.bestRow() : STATE;
    }

    public int count(int what) {
        switch (what) {
            case 0: return current.procs();
            case 1: return cells.heat();
            case 2: return cells.undoable();
            case 3: return cells.balls();
            case 4: return cells.wide();
            case 5: return cells.high();
            case 6: return cracks.seen();
            case 7: return cracks.rights();
            case 8: return tape.length();
            default: return NONE;
        }
    }

    private static boolean noFloor(int f) {
        return f < 0 || f >= FLOORS;
    }

    /** A new row of STEPS is made in the spare FLOOR first, since FLOOR to may be one it is made from. */
    private int settle(int to) {
        floors[to].copyFrom(spareFloor);
        return floors[to].steps();
    }

    /** THE TAPE's bytes, read as TOKENS, with the first FAULT that its reader came to. */
    private static final class Tape {
        static final int MOST_BYTES = 900;
        static final int ENDED = 0;
        static final int WORD = 1;
        static final int NUMBER = 2;
        static final int BAD = 3;

        private static final int LONGEST_WORD = 8;
        private static final int LONGEST_NUMBER = 4;

        // A WORD is held as its letters' bytes; the order is that of the KEY numbers.
        private static final long[] WORDS = {
            0x616464L /* add */, 0x737562L /* sub */, 0x786f72L /* xor */, 0x73776170L /* swap */,
            0x6966L /* if */, 0x66726f6dL /* from */, 0x63616c6cL /* call */, 0x756e63616c6cL /* uncall */,
            0x70726f63L /* proc */, 0x6973L /* is */, 0x656e64L /* end */, 0x7468656eL /* then */,
            0x656c7365L /* else */, 0x6669L /* fi */, 0x646fL /* do */, 0x6c6f6f70L /* loop */,
            0x756e74696cL /* until */, 0x6c616e6573L /* lanes */, 0x7475726eL /* turn */};

        // One TOKEN more than there are bytes: the text's end.
        private static final int MOST_TOKENS = MOST_BYTES + 1;

        private final int[] bytes = new int[MOST_BYTES];
        private final int[] kinds = new int[MOST_TOKENS];
        private final int[] keys = new int[MOST_TOKENS];
        private final int[] places = new int[MOST_TOKENS];
        // A WORD's letters, or an N.
        private final long[] contents = new long[MOST_TOKENS];
        private int length;
        private int tokens;
        private int at;
        private int kind;
        private int key;
        private int faultKind;
        private int faultPlace = NONE;

        Tape() {
        }

        int take(int a, int b, int c, int d, int e) {
            if (length + 20 > MOST_BYTES) {
                return FULL;
            }
            takeFour(a);
            takeFour(b);
            takeFour(c);
            takeFour(d);
            takeFour(e);
            return length;
        }

        private void takeFour(int four) {
            for (int shift = 24; shift >= 0 && length < MOST_BYTES; shift -= 8) {
                bytes[length] = four >>> shift & 255;
                length++;
            }
        }

        int cutTo(int n) {
            if (n < 0 || n > length) {
                return NONE;
            }
            length = n;
            return n;
        }

        void empty() {
            length = 0;
        }

        int length() {
            return length;
        }

        int faultKind() {
            return faultKind;
        }

        int faultPlace() {
            return faultPlace;
        }

        void begin() {
            scan();
            at = 0;
            kind = kinds[0];
            key = keys[0];
            faultKind = 0;
            faultPlace = NONE;
        }

        /** Behind a FAULT no TOKEN is read any more, so that every reader's loop ends. */
        void advance() {
            if (faultKind == 0 && at < tokens - 1) {
                at++;
                kind = kinds[at];
                key = keys[at];
            }
        }

        private void scan() {
            tokens = 0;
            int i = 0;
            for (int n = 0; n < MOST_BYTES && i < length; n++) {
                int c = bytes[i];
                if (c == ' ' || c == '\n') {
                    i++;
                } else if (isSmall(c)) {
                    i = scanWord(i);
                } else if (isDigit(c)) {
                    i = scanNumber(i);
                } else {
                    addToken(isSign(c) ? c : BAD, i, 0);
                    i++;
                }
            }
            addToken(ENDED, length, 0);
        }

        private int scanWord(int from) {
            long word = 0;
            int i = from;
            while (i < length && isSmall(bytes[i])) {
                word = word << 8 | bytes[i];
                i++;
            }
            addToken(i - from > LONGEST_WORD ? BAD : WORD, from, word);
            return i;
        }

        private int scanNumber(int from) {
            long number = 0;
            int i = from;
            while (i < length && isDigit(bytes[i])) {
                number = number * 10 + bytes[i] - '0';
                i++;
            }
            addToken(i - from > LONGEST_NUMBER ? BAD : NUMBER, from, number);
            return i;
        }

        private void addToken(int newKind, int from, long content) {
            if (tokens >= MOST_TOKENS) {
                return;
            }
            kinds[tokens] = newKind;
            keys[tokens] = NONE;
            places[tokens] = from;
            contents[tokens] = content;
            for (int k = 0; k < WORDS.length && newKind == WORD; k++) {
                if (WORDS[k] == content) {
                    keys[tokens] = k;
                }
            }
            tokens++;
        }

        private static boolean isSmall(int c) {
            return c >= 'a' && c <= 'z';
        }

        private static boolean isDigit(int c) {
            return c >= '0' && c <= '9';
        }

        private static boolean isSign(int c) {
            switch (c) {
                case ';': case '=': case '<': case '>': case '!':
                case '+': case '-': case '*': case '/': case '%': case '&':
                case '(': case ')': case '[': case ']':
                    return true;
                default:
                    return false;
            }
        }

        void fail(int why) {
            if (faultKind == 0) {
                faultKind = why;
                faultPlace = places[at];
            }
            kind = BAD;
            key = NONE;
        }

        boolean failed() {
            return faultKind != 0;
        }

        int kind() {
            return kind;
        }

        int key() {
            return key;
        }

        /** What the TOKEN tells, if it is an N. */
        int number() {
            return (int) contents[at];
        }

        /** The TOKEN's letters, if it is a WORD. */
        long word() {
            return contents[at];
        }

        /** 0 .. 7 for a .. h, Z for z, NONE for any other TOKEN. */
        int letter() {
            long word = contents[at];
            if (kind != WORD) {
                return NONE;
            }
            if (word >= 'a' && word <= 'h') {
                return (int) (word - 'a');
            }
            return word == 'z' ? Z : NONE;
        }

        /** Whether the TOKEN is a WORD that a proc may bear. */
        boolean seesName() {
            return kind == WORD && contents[at] > 255 && (key < 0 || key > KEY_UNTIL);
        }

        void wantKey(int wanted) {
            if (key == wanted) {
                advance();
            } else {
                fail(SYNTAX);
            }
        }

        void wantKind(int wanted) {
            if (kind == wanted) {
                advance();
            } else {
                fail(SYNTAX);
            }
        }

        void wantName() {
            if (seesName()) {
                advance();
            } else {
                fail(SYNTAX);
            }
        }

        /** An N within its bounds; what is told behind a FAULT is the low bound. */
        int wantNumber(int low, int high) {
            int told = (int) contents[at];
            if (kind != NUMBER) {
                fail(SYNTAX);
                return low;
            }
            if (told < low || told > high) {
                fail(OUT_OF_BOUNDS);
                return low;
            }
            advance();
            return told;
        }
    }

    /** A FLOOR: its lanes and its STEPS. */
    private static final class Floor {
        private final int[] kinds = new int[MOST_STEPS];
        private final int[] firsts = new int[MOST_STEPS];
        private final int[] seconds = new int[MOST_STEPS];
        private final int[] ifs = new int[MOST_STEPS];
        private int lanes = 1;
        private int steps;

        Floor() {
        }

        void clear(int newLanes) {
            lanes = newLanes;
            steps = 0;
        }

        void addTurn(int lane, int held) {
            addKind(TURN, lane, NONE, held);
        }

        void addSwap(int first, int second, int held) {
            addKind(SWAP, first, second, held);
        }

        private void addKind(int kind, int first, int second, int held) {
            if (steps < MOST_STEPS) {
                kinds[steps] = kind;
                firsts[steps] = first;
                seconds[steps] = second;
                ifs[steps] = held;
                steps++;
            }
        }

        void copyFrom(Floor other) {
            clear(other.lanes);
            addAll(other);
        }

        private void addAll(Floor other) {
            for (int i = 0; i < other.steps; i++) {
                addKind(other.kinds[i], other.firsts[i], other.seconds[i], other.ifs[i]);
            }
        }

        private void addAllBack(Floor other) {
            for (int i = other.steps - 1; i >= 0; i--) {
                addKind(other.kinds[i], other.firsts[i], other.seconds[i], other.ifs[i]);
            }
        }

        void layRolled(Floor from, int copied) {
            clear(from.lanes + Integer.bitCount(copied));
            addAll(from);
            int beyond = from.lanes;
            for (int lane = 0; lane < from.lanes; lane++) {
                if ((copied >> lane & 1) != 0) {
                    addTurn(beyond, 1 << lane);
                    beyond++;
                }
            }
            addAllBack(from);
        }

        void layChained(Floor f, Floor g) {
            clear(Math.max(f.lanes, g.lanes));
            addAll(f);
            addAll(g);
        }

        int lanes() {
            return lanes;
        }

        int steps() {
            return steps;
        }

        int rows() {
            return 1 << lanes;
        }

        boolean hasNoRow(int row) {
            return row < 0 || row >= rows();
        }

        int tell(int i, int what) {
            if (what == 1) {
                return lanes;
            }
            if (i < 0 || i >= steps) {
                return NONE;
            }
            switch (what) {
                case 0: return kinds[i];
                case 2: return firsts[i];
                case 3: return seconds[i];
                case 4: return ifs[i];
                default: return NONE;
            }
        }

        /** What STEP i makes of a ROW; done twice it changes nothing. */
        int pass(int row, int i) {
            int held = ifs[i];
            if ((row & held) != held) {
                return row;
            }
            if (kinds[i] == TURN) {
                return row ^ 1 << firsts[i];
            }
            int unlike = (row >> firsts[i] ^ row >> seconds[i]) & 1;
            return row ^ unlike << firsts[i] ^ unlike << seconds[i];
        }

        int outOf(int row, boolean back) {
            int now = row;
            for (int i = 0; i < steps; i++) {
                now = pass(now, back ? steps - 1 - i : i);
            }
            return now;
        }

        int runsTillThereAgain(int row) {
            int now = outOf(row, false);
            int runs = 1;
            while (now != row && runs < MOST_ROWS) {
                now = outOf(now, false);
                runs++;
            }
            return runs;
        }

        int leastRowUnlike(Floor other) {
            for (int row = 0; row < rows(); row++) {
                if (outOf(row, false) != other.outOf(row, false)) {
                    return row;
                }
            }
            return NONE;
        }

        void fillTable(int[] table) {
            for (int row = 0; row < rows() && row < table.length; row++) {
                table[row] = outOf(row, false);
            }
        }
    }

    /** Reads a FLOOR's text. */
    private static final class FloorReader {
        private final Tape tape;

        FloorReader(Tape tape) {
            this.tape = tape;
        }

        boolean readInto(Floor floor) {
            tape.begin();
            tape.wantKey(KEY_LANES);
            floor.clear(tape.wantNumber(1, MOST_LANES));
            tape.wantKind(';');
            for (int n = 0; n <= MOST_STEPS && (tape.key() == KEY_TURN || tape.key() == KEY_SWAP); n++) {
                readStep(floor);
                tape.wantKind(';');
            }
            tape.wantKind(Tape.ENDED);
            return !tape.failed();
        }

        private void readStep(Floor floor) {
            if (floor.steps() >= MOST_STEPS) {
                tape.fail(ROOM);
                return;
            }
            boolean swap = tape.key() == KEY_SWAP;
            tape.advance();
            int first = readLane(floor, 0);
            int taken = 1 << first;
            int second = NONE;
            if (swap) {
                second = readLane(floor, taken);
                taken |= 1 << second;
            }
            int held = readIfs(floor, taken);
            if (tape.failed()) {
                return;
            }
            if (swap) {
                floor.addSwap(first, second, held);
            } else {
                floor.addTurn(first, held);
            }
        }

        private int readIfs(Floor floor, int taken) {
            int held = 0;
            for (int n = 0; n <= MOST_LANES && tape.key() == KEY_IF; n++) {
                tape.advance();
                held |= 1 << readLane(floor, taken | held);
            }
            return held;
        }

        private int readLane(Floor floor, int taken) {
            if (tape.kind() == Tape.NUMBER && tape.number() < floor.lanes() && (taken >> tape.number() & 1) != 0) {
                tape.fail(TWICE);
            }
            return tape.wantNumber(0, floor.lanes() - 1);
        }
    }

    /** What is reckoned over a FLOOR's whole TABLE. */
    private static final class Tables {
        private final int[] table = new int[MOST_ROWS];
        private final int[] laidLanes = new int[MOST_STEPS];
        private final int[] laidIfs = new int[MOST_STEPS];
        private int laid;

        Tables() {
        }

        int oddness(Floor floor) {
            floor.fillTable(table);
            int odd = 0;
            for (int row = 0; row < floor.rows(); row++) {
                if (table[row] != NONE) {
                    odd ^= takeCycle(row) - 1 & 1;
                }
            }
            return odd;
        }

        long runsTillAllAreThere(Floor floor) {
            floor.fillTable(table);
            long runs = 1;
            for (int row = 0; row < floor.rows(); row++) {
                if (table[row] != NONE) {
                    long length = takeCycle(row);
                    runs = runs / greatestCommon(runs, length) * length;
                }
            }
            return runs;
        }

        /** A cycle's length; its rows are struck out of the TABLE, so that it is met once. */
        private int takeCycle(int row) {
            int length = 0;
            int now = row;
            while (length < MOST_ROWS && table[now] != NONE) {
                int next = table[now];
                table[now] = NONE;
                now = next;
                length++;
            }
            return length;
        }

        private static long greatestCommon(long a, long b) {
            long high = a;
            long low = b;
            for (int n = 0; n < 200 && low > 0; n++) {
                long left = high % low;
                high = low;
                low = left;
            }
            return high > 0 ? high : 1;
        }

        /** LAID; false if there are more turns than a FLOOR has room for. */
        boolean layInto(Floor floor, Floor into) {
            floor.fillTable(table);
            laid = 0;
            int rows = floor.rows();
            for (int v = 0; v < rows && laid <= MOST_STEPS; v++) {
                mendRow(v, floor.lanes(), rows);
            }
            if (laid > MOST_STEPS) {
                return false;
            }
            into.clear(floor.lanes());
            for (int i = laid - 1; i >= 0; i--) {
                into.addTurn(laidLanes[i], laidIfs[i]);
            }
            return true;
        }

        private void mendRow(int v, int lanes, int rows) {
            for (int lane = 0; lane < lanes; lane++) {
                if ((v & ~table[v] & 1 << lane) != 0) {
                    layTurn(lane, table[v], rows);
                }
            }
            for (int lane = 0; lane < lanes; lane++) {
                if ((table[v] & ~v & 1 << lane) != 0) {
                    layTurn(lane, table[v] & ~(1 << lane), rows);
                }
            }
        }

        private void layTurn(int lane, int held, int rows) {
            for (int row = 0; row < rows; row++) {
                if ((table[row] & held) == held) {
                    table[row] ^= 1 << lane;
                }
            }
            if (laid < MOST_STEPS) {
                laidLanes[laid] = lane;
                laidIfs[laid] = held;
            }
            laid++;
        }
    }

    /**
     * LEAST. A TABLE of three lanes is held as three bytes, one a lane: which ROWS in bring a ball out on it.
     * All TABLES near to the one without STEPS are kept with how many STEPS they need (the near ones), and a search
     * in the order of the STEPS' numbers goes from the asked one till it comes upon their rim.
     */
    private static final class Shortest {
        static final int LANES = 3;

        private static final int ROWS = 8;
        private static final int UNTURNED = 0xF0CCAA;
        private static final int SWAPS = 64;
        // The STEPS in their order: a turn by its number, a swap by its number and SWAPS.
        private static final int[] STEPS = {
            0, 2, 4, 6, 8, 9, 12, 13, 16, 17, 18, 19, 72, 76, 80, 82, 112, 113};
        // Kinds that don't make all 40320 TABLES make 5040 at most: beyond that every TABLE can be had.
        private static final int ENOUGH = 5040;
        private static final int NEAR_ROOM = 16384;
        private static final int SLOTS = 32768;
        private static final int DEEPEST = 12;
        // No TABLE and no set of kinds needs a tenth of this.
        private static final int MOST_TRIES = 1000000;

        private final int[] usable = new int[STEPS.length];
        private final int[] picked = new int[MOST_STEPS];
        // For each picked STEP how many usable ones were tried there, and the TABLE behind those picked ahead of it.
        private final int[] tried = new int[DEEPEST + 1];
        private final int[] behindPicked = new int[DEEPEST + 1];
        private int[] slots = new int[0];
        private int[] near = new int[0];
        private int usables;
        private int nearKinds = NONE;
        private int size;
        private int rim;
        private int radius;
        private boolean whole;
        private int reached;

        Shortest() {
        }

        /** false if no row of STEPS of these kinds has the TABLE. */
        boolean find(Floor floor, int kinds, Floor into) {
            if (kinds != nearKinds) {
                beginNear(kinds);
            }
            reached = undoing(floor);
            for (int n = 0; n < MOST_STEPS && distance(reached) < 0 && !whole && size <= ENOUGH; n++) {
                growNear();
            }
            int ahead = 0;
            if (distance(reached) < 0) {
                ahead = whole ? NONE : stepsToRim();
            }
            if (ahead < 0) {
                return false;
            }
            int all = walkHome(ahead);
            into.clear(LANES);
            for (int i = 0; i < all; i++) {
                addPicked(into, picked[i]);
            }
            return true;
        }

        private static void addPicked(Floor into, int step) {
            if (step < SWAPS) {
                into.addTurn(step >> 3, step & 7);
            } else {
                into.addSwap(step - SWAPS >> 5, step >> 3 & 3, step & 7);
            }
        }

        /** The TABLE from outs to ins: the STEPS of LEAST done behind it, first to last, bring every ROW home. */
        private static int undoing(Floor floor) {
            int table = 0;
            for (int row = 0; row < ROWS; row++) {
                int out = floor.outOf(row, false);
                for (int lane = 0; lane < LANES; lane++) {
                    table |= (row >> lane & 1) << 8 * lane + out;
                }
            }
            return table;
        }

        private static int pass(int step, int table) {
            int held = 255;
            if ((step & 1) != 0) {
                held &= table;
            }
            if ((step & 2) != 0) {
                held &= table >> 8;
            }
            if ((step & 4) != 0) {
                held &= table >> 16;
            }
            if (step < SWAPS) {
                return table ^ held << (step & 24);
            }
            int first = step - SWAPS >> 5 << 3;
            int second = step & 24;
            int unlike = (table >> first ^ table >> second) & held;
            return table ^ unlike << first ^ unlike << second;
        }

        private static int kindOf(int step) {
            return (step < SWAPS ? 0 : 3) + Integer.bitCount(step & 7);
        }

        private void beginNear(int kinds) {
            if (slots.length == 0) {
                // Made at the first call alone: most objects are never asked for LEAST.
                slots = new int[SLOTS];
                near = new int[NEAR_ROOM];
            } else {
                Arrays.fill(slots, 0);
            }
            nearKinds = kinds;
            usables = 0;
            for (int i = 0; i < STEPS.length; i++) {
                if ((kinds >> kindOf(STEPS[i]) & 1) != 0) {
                    usable[usables] = STEPS[i];
                    usables++;
                }
            }
            size = 0;
            rim = 0;
            radius = 0;
            whole = false;
            keep(UNTURNED);
        }

        private void growNear() {
            int from = rim;
            int to = size;
            rim = size;
            radius++;
            for (int i = from; i < to; i++) {
                for (int u = 0; u < usables; u++) {
                    keep(pass(usable[u], near[i]));
                }
            }
            whole = size == to;
        }

        /** A slot holds a TABLE in its low 24 bits and its distance above; no TABLE is 0. */
        private void keep(int table) {
            int slot = slotOf(table);
            if (slots[slot] == 0 && size < near.length) {
                slots[slot] = radius << 24 | table;
                near[size] = table;
                size++;
            }
        }

        private int distance(int table) {
            int held = slots[slotOf(table)];
            return held == 0 ? NONE : held >> 24;
        }

        /** The slot that holds a TABLE, or the free one where it would be. */
        private int slotOf(int table) {
            int slot = table * 0x9E3779B1 >>> 17;
            for (int n = 0; n < SLOTS && slots[slot] != 0 && (slots[slot] & 0xFFFFFF) != table; n++) {
                slot = slot + 1 & SLOTS - 1;
            }
            return slot;
        }

        /** How many STEPS lead from the asked TABLE to the rim; the first found are the least. */
        private int stepsToRim() {
            behindPicked[0] = reached;
            for (int deep = 1; deep <= DEEPEST; deep++) {
                if (reachRim(deep)) {
                    return deep;
                }
            }
            return NONE;
        }

        /** Goes through the rows of so many STEPS in their order, up to the first one that leads to the rim. */
        private boolean reachRim(int deep) {
            int at = 0;
            tried[0] = 0;
            for (int n = 0; n < MOST_TRIES && at >= 0; n++) {
                if (at < deep && tried[at] < usables) {
                    picked[at] = usable[tried[at]];
                    tried[at]++;
                    behindPicked[at + 1] = pass(picked[at], behindPicked[at]);
                    at++;
                    tried[at] = 0;
                } else if (at == deep && distance(behindPicked[at]) == radius) {
                    reached = behindPicked[at];
                    return true;
                } else {
                    at--;
                }
            }
            return false;
        }

        /** Among the near ones each STEP is the least that comes one nearer; tells how many there are in all. */
        private int walkHome(int ahead) {
            int at = ahead;
            for (int left = distance(reached); left > 0 && at < picked.length; left--) {
                picked[at] = stepNearer(left - 1);
                reached = pass(picked[at], reached);
                at++;
            }
            return at;
        }

        private int stepNearer(int wanted) {
            for (int u = 0; u < usables; u++) {
                if (distance(pass(usable[u], reached)) == wanted) {
                    return usable[u];
                }
            }
            return 0;
        }
    }

    /** A PROGRAM as it was read: its STEPS, hung into bodies, and the codes of its sums and tests. */
    private static final class Program {
        // The bodies of STEP s are 2s and 2s + 1; those of the procs stand behind all of these.
        static final int PROC_BODIES = 2 * MOST_PROGRAM_STEPS;
        // A code below 0 is a sign, one below FIRST_VAR a number, else a VAR.
        static final int FIRST_VAR = 10000;

        private final int[] kinds = new int[MOST_PROGRAM_STEPS];
        private final int[] bodies = new int[MOST_PROGRAM_STEPS];
        private final int[] nexts = new int[MOST_PROGRAM_STEPS];
        private final int[] formers = new int[MOST_PROGRAM_STEPS];
        private final int[] lefts = new int[MOST_PROGRAM_STEPS];
        private final int[] rights = new int[MOST_PROGRAM_STEPS];
        private final long[] calledNames = new long[MOST_PROGRAM_STEPS];
        private final int[] begins = new int[2 * MOST_PROGRAM_STEPS];
        private final int[] ends = new int[2 * MOST_PROGRAM_STEPS];
        private final int[] firsts = new int[PROC_BODIES + MOST_PROCS];
        private final int[] lasts = new int[PROC_BODIES + MOST_PROCS];
        private final long[] names = new long[MOST_PROCS];
        private final int[] codes = new int[Tape.MOST_BYTES];
        private int steps;
        private int procs;
        private int length;

        Program() {
            clear();
        }

        void clear() {
            steps = 0;
            procs = 0;
            length = 0;
            Arrays.fill(firsts, NONE);
            Arrays.fill(lasts, NONE);
        }

        int procs() {
            return procs;
        }

        int steps() {
            return steps;
        }

        /** The number of the proc with this name, or NONE. */
        int procNamed(long name) {
            for (int p = 0; p < procs; p++) {
                if (names[p] == name) {
                    return p;
                }
            }
            return NONE;
        }

        /** The body of the new proc. */
        int addProc(long name) {
            if (procs >= MOST_PROCS) {
                return PROC_BODIES;
            }
            names[procs] = name;
            procs++;
            return PROC_BODIES + procs - 1;
        }

        /** The new STEP hangs behind the last one of its body; NONE if there is no room. */
        int addStep(int kind, int body) {
            if (steps >= MOST_PROGRAM_STEPS) {
                return NONE;
            }
            int step = steps;
            steps++;
            kinds[step] = kind;
            bodies[step] = body;
            nexts[step] = NONE;
            formers[step] = lasts[body];
            if (lasts[body] == NONE) {
                firsts[body] = step;
            } else {
                nexts[lasts[body]] = step;
            }
            lasts[body] = step;
            return step;
        }

        void setVars(int step, int left, int right) {
            lefts[step] = left;
            rights[step] = right;
        }

        void setCalled(int step, long name) {
            calledNames[step] = name;
        }

        /** false if a proc is called that isn't told; else each call knows its proc. */
        boolean findCalled() {
            for (int s = 0; s < steps; s++) {
                if (kinds[s] == KEY_CALL || kinds[s] == KEY_UNCALL) {
                    lefts[s] = procNamed(calledNames[s]);
                    if (lefts[s] == NONE) {
                        return false;
                    }
                }
            }
            return true;
        }

        void addCode(int code) {
            if (length < codes.length) {
                codes[length] = code;
                length++;
            }
        }

        /** Codes from here on, till endSum, are sum 0 or 1 of a STEP (of if and from: its two TESTS). */
        void beginSum(int step, int which) {
            begins[2 * step + which] = length;
        }

        void endSum(int step, int which) {
            ends[2 * step + which] = length;
        }

        int kindOf(int step) {
            return kinds[step];
        }

        int bodyOf(int step) {
            return bodies[step];
        }

        int leftOf(int step) {
            return lefts[step];
        }

        int rightOf(int step) {
            return rights[step];
        }

        int beginOf(int step, int which) {
            return begins[2 * step + which];
        }

        int endOf(int step, int which) {
            return ends[2 * step + which];
        }

        int codeAt(int i) {
            return codes[i];
        }

        int startOf(int body, boolean back) {
            return back ? lasts[body] : firsts[body];
        }

        int behind(int step, boolean back) {
            return back ? formers[step] : nexts[step];
        }
    }

    /** Reads a PROGRAM's text. What is open is kept in rows, so that no method calls itself. */
    private static final class ProgramReader {
        private final Tape tape;
        private final int[] openSteps = new int[MOST_OPEN];
        // The sign that waits for its second FACTOR, for each open bracket and outside of all.
        private final int[] waiting = new int[MOST_OPEN + 1];
        private Program program;
        private int body;
        private int open;
        private int brackets;
        private int atoms;
        // Letters, as bits, that would be TWICE in the VAR or SUM that is read.
        private int barred;

        ProgramReader(Tape tape, Program first) {
            this.tape = tape;
            program = first;
        }

        boolean readInto(Program into) {
            program = into;
            program.clear();
            body = NONE;
            open = 0;
            barred = 0;
            tape.begin();
            for (int n = 0; n <= Tape.MOST_BYTES && tape.kind() != Tape.ENDED && !tape.failed(); n++) {
                if (body == NONE) {
                    readHead();
                } else if (tape.key() >= KEY_ADD && tape.key() <= KEY_UNCALL) {
                    readStep();
                } else if (open > 0) {
                    endBody();
                } else {
                    readTail();
                }
            }
            if (body != NONE) {
                tape.fail(SYNTAX);
            }
            if (!tape.failed() && !program.findCalled()) {
                tape.fail(UNKNOWN);
            }
            return !tape.failed();
        }

        private void readHead() {
            if (tape.key() == KEY_PROC && program.procs() >= MOST_PROCS) {
                tape.fail(ROOM);
            }
            tape.wantKey(KEY_PROC);
            long name = tape.word();
            if (tape.seesName() && program.procNamed(name) != NONE) {
                tape.fail(TWICE);
            }
            tape.wantName();
            tape.wantKey(KEY_IS);
            if (!tape.failed()) {
                body = program.addProc(name);
            }
        }

        private void readTail() {
            tape.wantKey(KEY_END);
            tape.wantKind(';');
            body = NONE;
        }

        private void readStep() {
            int kind = tape.key();
            boolean opens = kind == KEY_IF || kind == KEY_FROM;
            if (program.steps() >= MOST_PROGRAM_STEPS || opens && open >= MOST_OPEN) {
                tape.fail(ROOM);
                return;
            }
            int step = program.addStep(kind, body);
            tape.advance();
            switch (kind) {
                case KEY_IF:
                case KEY_FROM:
                    readTest(step, 0);
                    tape.wantKey(kind == KEY_IF ? KEY_THEN : KEY_DO);
                    openSteps[open] = step;
                    open++;
                    body = 2 * step;
                    return;
                case KEY_CALL:
                case KEY_UNCALL:
                    program.setCalled(step, tape.word());
                    tape.wantName();
                    break;
                case KEY_SWAP:
                    readSwap(step);
                    break;
                default:
                    readChange(step);
                    break;
            }
            tape.wantKind(';');
        }

        /** The first BODY of if or from goes over into the second one, or that one into what is behind it. */
        private void endBody() {
            int step = openSteps[open - 1];
            boolean fork = program.kindOf(step) == KEY_IF;
            if (body == 2 * step) {
                tape.wantKey(fork ? KEY_ELSE : KEY_LOOP);
                body = 2 * step + 1;
                return;
            }
            tape.wantKey(fork ? KEY_FI : KEY_UNTIL);
            readTest(step, 1);
            tape.wantKind(';');
            open--;
            body = program.bodyOf(step);
        }

        private void readSwap(int step) {
            int left = readVar();
            barred = left >= FIRST_PLACE ? 1 << Z : 1 << left;
            if (left >= VALUES) {
                barred |= 1 << left - VALUES;
            }
            int right = readVar();
            barred = 0;
            program.setVars(step, left, right);
        }

        private void readChange(int step) {
            int left = readVar();
            program.setVars(step, left, left);
            barred = left >= FIRST_PLACE ? 1 << Z : 1 << left;
            program.beginSum(step, 0);
            readSum();
            program.endSum(step, 0);
            barred = 0;
        }

        private void readTest(int step, int which) {
            program.beginSum(step, which);
            readSum();
            int sign = tape.kind();
            if (sign == '=' || sign == '<' || sign == '>' || sign == '!') {
                tape.advance();
            } else {
                tape.fail(SYNTAX);
            }
            readSum();
            program.addCode(-sign);
            program.endSum(step, which);
        }

        /** A sign's code stands behind those of both FACTORS, so that a run needs no brackets. */
        private void readSum() {
            atoms = 0;
            brackets = 0;
            waiting[0] = 0;
            boolean more = true;
            for (int n = 0; n <= Tape.MOST_BYTES && more; n++) {
                if (tape.kind() == '(') {
                    openBracket();
                } else {
                    countAtom();
                    if (tape.kind() == Tape.NUMBER) {
                        program.addCode(tape.number());
                        tape.advance();
                    } else {
                        program.addCode(Program.FIRST_VAR + readVar());
                    }
                    more = endFactor();
                }
            }
        }

        private void openBracket() {
            if (brackets >= MOST_OPEN) {
                tape.fail(ROOM);
                return;
            }
            brackets++;
            waiting[brackets] = 0;
            tape.advance();
        }

        /** A letter that is TWICE is told by readVar, ahead of ROOM. */
        private void countAtom() {
            int letter = tape.letter();
            boolean fine = tape.kind() == Tape.NUMBER || letter != NONE && (barred >> letter & 1) == 0;
            if (fine && atoms >= MOST_ATOMS) {
                tape.fail(ROOM);
            }
            atoms++;
        }

        /** true if a sign behind the FACTOR asks for another one. */
        private boolean endFactor() {
            doWaiting();
            while (brackets > 0 && tape.kind() == ')') {
                tape.advance();
                brackets--;
                doWaiting();
            }
            switch (tape.kind()) {
                case '+': case '-': case '*': case '/': case '%': case '&':
                    waiting[brackets] = tape.kind();
                    tape.advance();
                    return true;
                default:
                    break;
            }
            if (brackets > 0) {
                tape.fail(SYNTAX);
            }
            return false;
        }

        private void doWaiting() {
            if (waiting[brackets] != 0) {
                program.addCode(-waiting[brackets]);
                waiting[brackets] = 0;
            }
        }

        /** 0 .. 7 a .. h, 10 .. 19 a told place of z, 20 .. 27 a place of z by a letter; 0 with a FAULT. */
        private int readVar() {
            int letter = tape.letter();
            if (letter == NONE) {
                tape.fail(SYNTAX);
                return 0;
            }
            if ((barred >> letter & 1) != 0) {
                tape.fail(TWICE);
                return 0;
            }
            tape.advance();
            if (letter != Z) {
                return letter;
            }
            tape.wantKind('[');
            int place = readPlace();
            tape.wantKind(']');
            return place;
        }

        private int readPlace() {
            int letter = tape.letter();
            int number = tape.number();
            boolean isNumber = tape.kind() == Tape.NUMBER;
            if (!isNumber && (letter == NONE || letter == Z)) {
                tape.fail(SYNTAX);
                return 0;
            }
            if (isNumber && number >= PLACES) {
                tape.fail(OUT_OF_BOUNDS);
                return 0;
            }
            if (!isNumber && (barred >> letter & 1) != 0) {
                tape.fail(TWICE);
                return 0;
            }
            tape.advance();
            return isNumber ? FIRST_PLACE + number : VALUES + letter;
        }
    }

    /** The VALUES, and the runs of procs over them, forth and back. */
    private static final class Machine {
        private static final int STACK = 24;
        private static final int UNMET = 1;
        private static final int NO_PLACE = 2;
        private static final int TOO_LONG = 3;
        private static final int TOO_DEEP = 4;
        // Far above the STEPS and ends of bodies that MOST_COUNTED lets a run come to.
        private static final int MOST_TURNS = 1000000;

        private final int[] values = new int[VALUES];
        private final int[] saved = new int[VALUES];
        private final int[] stack = new int[STACK];
        private final int[] callers = new int[MOST_CALLS];
        private final boolean[] callersBack = new boolean[MOST_CALLS];
        private Program program;
        private int calls;
        private int at;
        private int body;
        private boolean undoing;
        private boolean over;
        private int counted;
        private int met;

        Machine(Program first) {
            program = first;
        }

        static boolean hasNoValue(int v) {
            return v < 0 || v >= VALUES || v >= LETTERS && v < FIRST_PLACE;
        }

        int put(int v, int n) {
            int was = values[v];
            values[v] = n;
            return was;
        }

        int valueOf(int v) {
            return values[v];
        }

        int latestTrouble() {
            return met;
        }

        int latestCounted() {
            return counted;
        }

        int perform(Program of, int proc, boolean backwards) {
            program = of;
            System.arraycopy(values, 0, saved, 0, VALUES);
            calls = 0;
            counted = 0;
            met = 0;
            over = false;
            undoing = backwards;
            enter(Program.PROC_BODIES + proc);
            for (int n = 0; n < MOST_TURNS && !over && met == 0; n++) {
                if (at == NONE) {
                    leaveBody();
                } else {
                    beginStep(at);
                }
            }
            if (met != 0) {
                System.arraycopy(saved, 0, values, 0, VALUES);
                return NONE;
            }
            return counted;
        }

        private void enter(int newBody) {
            body = newBody;
            at = program.startOf(newBody, undoing);
        }

        private void goBehind(int step) {
            body = program.bodyOf(step);
            at = program.behind(step, undoing);
        }

        private void meet(int trouble) {
            if (met == 0) {
                met = trouble;
            }
        }

        private void countOne() {
            counted++;
            if (counted > MOST_COUNTED) {
                meet(TOO_LONG);
            }
        }

        private void beginStep(int step) {
            countOne();
            if (met != 0) {
                return;
            }
            switch (program.kindOf(step)) {
                case KEY_IF:
                    enter(2 * step + (holds(step, true) ? 0 : 1));
                    break;
                case KEY_FROM:
                    if (!holds(step, true)) {
                        meet(UNMET);
                    }
                    enter(2 * step);
                    break;
                case KEY_CALL:
                case KEY_UNCALL:
                    beginCall(step);
                    break;
                case KEY_SWAP:
                    swapValues(placeOf(program.leftOf(step)), placeOf(program.rightOf(step)));
                    goBehind(step);
                    break;
                default:
                    change(step);
                    goBehind(step);
                    break;
            }
        }

        private void beginCall(int step) {
            if (calls >= MOST_CALLS) {
                meet(TOO_DEEP);
                return;
            }
            callers[calls] = step;
            callersBack[calls] = undoing;
            calls++;
            undoing ^= program.kindOf(step) == KEY_UNCALL;
            enter(Program.PROC_BODIES + program.leftOf(step));
        }

        private void endCall() {
            if (calls == 0) {
                over = true;
                return;
            }
            calls--;
            undoing = callersBack[calls];
            goBehind(callers[calls]);
        }

        private void leaveBody() {
            if (body >= Program.PROC_BODIES) {
                endCall();
                return;
            }
            int step = body / 2;
            boolean first = body % 2 == 0;
            if (program.kindOf(step) == KEY_IF) {
                if (holds(step, false) != first) {
                    meet(UNMET);
                }
                goBehind(step);
            } else if (!first) {
                if (holds(step, true)) {
                    meet(UNMET);
                }
                enter(2 * step);
            } else if (holds(step, false)) {
                goBehind(step);
            } else if (met == 0) {
                // A TEST that met TROUBLE ends the run ahead of the loop, which then counts nothing.
                countOne();
                enter(2 * step + 1);
            }
        }

        /** Of if and from, the TEST that is come to first or last; run back, the one behind is the first. */
        private boolean holds(int step, boolean ahead) {
            int which = ahead == undoing ? 1 : 0;
            return reckon(program.beginOf(step, which), program.endOf(step, which)) != 0;
        }

        private void swapValues(int left, int right) {
            int was = values[left];
            values[left] = values[right];
            values[right] = was;
        }

        private void change(int step) {
            int place = placeOf(program.leftOf(step));
            int sum = reckon(program.beginOf(step, 0), program.endOf(step, 0));
            int kind = program.kindOf(step);
            if (kind == KEY_XOR) {
                values[place] ^= sum;
            } else if (kind == KEY_ADD != undoing) {
                values[place] += sum;
            } else {
                values[place] -= sum;
            }
        }

        /** Where a VAR's VALUE stands; a place of z that can't be is TROUBLE, and then any place will do. */
        private int placeOf(int variable) {
            if (variable < VALUES) {
                return variable;
            }
            int place = values[variable - VALUES];
            if (place < 0 || place >= PLACES) {
                meet(NO_PLACE);
                return FIRST_PLACE;
            }
            return FIRST_PLACE + place;
        }

        private int reckon(int from, int to) {
            int top = 0;
            for (int i = from; i < to; i++) {
                int code = program.codeAt(i);
                if (code < 0 && top >= 2) {
                    top--;
                    stack[top - 1] = work(-code, stack[top - 1], stack[top]);
                } else if (code >= 0 && top < STACK) {
                    stack[top] = code < Program.FIRST_VAR ? code : values[placeOf(code - Program.FIRST_VAR)];
                    top++;
                }
            }
            return stack[0];
        }

        private static int work(int sign, int left, int right) {
            switch (sign) {
                case '+': return left + right;
                case '-': return left - right;
                case '*': return left * right;
                case '/': return right == 0 ? 0 : left / right;
                case '%': return right == 0 ? 0 : left % right;
                case '&': return left & right;
                case '=': return left == right ? 1 : 0;
                case '<': return left < right ? 1 : 0;
                case '>': return left > right ? 1 : 0;
                default: return left != right ? 1 : 0;
            }
        }
    }

    /** THE TABLE of cells. A row of cells is held as bits, a way's balls or a kind's parts at once. */
    private static final class Cells {
        static final int LEAST_SIDE = 2;
        static final int MOST_SIDE = 10;
        static final int WAYS = 4;
        static final int KINDS = 4;
        static final int MOST_BEATS = 500;

        private static final int MOST_UNDOABLE = 1000000;
        private static final int MOST_ROUND = 2000;
        private static final int EAST = 0;
        private static final int NORTH = 1;
        private static final int WEST = 2;
        private static final int SOUTH = 3;
        private static final int FREE = 0;
        private static final int RISING = 1;
        private static final int FALLING = 2;
        private static final int STOP = 3;

        private final int[][] balls = new int[WAYS][MOST_SIDE];
        private final int[][] saved = new int[WAYS][MOST_SIDE];
        private final int[][] parts = new int[KINDS][MOST_SIDE];
        private int wide;
        private int high;
        private int heat;
        private int undoable;

        Cells() {
            clear(4, 4);
        }

        void clear(int newWide, int newHigh) {
            wide = newWide;
            high = newHigh;
            heat = 0;
            undoable = 0;
            for (int way = 0; way < WAYS; way++) {
                Arrays.fill(balls[way], 0);
            }
            for (int kind = 0; kind < KINDS; kind++) {
                Arrays.fill(parts[kind], kind == FREE ? (1 << wide) - 1 : 0);
            }
        }

        boolean hasNoCell(int x, int y) {
            return x < 0 || x >= wide || y < 0 || y >= high;
        }

        int putPart(int x, int y, int kind) {
            int was = FREE;
            for (int k = 0; k < KINDS; k++) {
                if ((parts[k][y] >> x & 1) != 0) {
                    was = k;
                }
            }
            parts[was][y] &= ~(1 << x);
            parts[kind][y] |= 1 << x;
            undoable = 0;
            return was;
        }

        int putBall(int x, int y, int way, boolean there) {
            boolean was = (balls[way][y] >> x & 1) != 0;
            if (was != there) {
                balls[way][y] ^= 1 << x;
            }
            undoable = 0;
            return was == there ? 0 : 1;
        }

        int ballsAt(int x, int y) {
            int told = 0;
            for (int way = 0; way < WAYS; way++) {
                told |= (balls[way][y] >> x & 1) << way;
            }
            return told;
        }

        int balls() {
            int told = 0;
            for (int way = 0; way < WAYS; way++) {
                for (int y = 0; y < high; y++) {
                    told += Integer.bitCount(balls[way][y]);
                }
            }
            return told;
        }

        int wide() {
            return wide;
        }

        int high() {
            return high;
        }

        int heat() {
            return heat;
        }

        int undoable() {
            return undoable;
        }

        void goOn(int n) {
            for (int i = 0; i < n; i++) {
                int taken = meetAll();
                moveAll();
                heat += taken;
                undoable = taken > 0 ? 0 : Math.min(undoable + 1, MOST_UNDOABLE);
            }
        }

        void goBack(int n) {
            for (int i = 0; i < n; i++) {
                moveAllBack();
                // No STOP took a ball in these BEATS, and all else that is done in a cell undoes itself.
                meetAll();
            }
            undoable -= n;
        }

        int beatsTillAsNow() {
            copyBalls(balls, saved);
            int told = NONE;
            boolean lost = false;
            for (int n = 1; n <= MOST_ROUND && told == NONE && !lost; n++) {
                lost = meetAll() > 0;
                moveAll();
                if (!lost && isAsSaved()) {
                    told = n;
                }
            }
            copyBalls(saved, balls);
            return told;
        }

        private void copyBalls(int[][] from, int[][] to) {
            for (int way = 0; way < WAYS; way++) {
                System.arraycopy(from[way], 0, to[way], 0, MOST_SIDE);
            }
        }

        private boolean isAsSaved() {
            for (int way = 0; way < WAYS; way++) {
                for (int y = 0; y < high; y++) {
                    if (balls[way][y] != saved[way][y]) {
                        return false;
                    }
                }
            }
            return true;
        }

        /** What is done in each cell ahead of the going; tells how many balls STOPS took. */
        private int meetAll() {
            int taken = 0;
            for (int y = 0; y < high; y++) {
                taken += meetRow(y);
            }
            return taken;
        }

        private int meetRow(int y) {
            int e = balls[EAST][y];
            int n = balls[NORTH][y];
            int w = balls[WEST][y];
            int s = balls[SOUTH][y];
            int stop = parts[STOP][y];
            int taken = Integer.bitCount(e & stop) + Integer.bitCount(n & stop)
                + Integer.bitCount(w & stop) + Integer.bitCount(s & stop);
            int meeting = parts[FREE][y] & (e & w & ~(n | s) | n & s & ~(e | w));
            int free = parts[FREE][y];
            int rising = parts[RISING][y];
            int falling = parts[FALLING][y];
            balls[EAST][y] = (e ^ meeting) & free | n & rising | s & falling;
            balls[NORTH][y] = (n ^ meeting) & free | e & rising | w & falling;
            balls[WEST][y] = (w ^ meeting) & free | s & rising | n & falling;
            balls[SOUTH][y] = (s ^ meeting) & free | w & rising | e & falling;
            return taken;
        }

        private void moveAll() {
            int last = 1 << wide - 1;
            for (int y = 0; y < high; y++) {
                int e = balls[EAST][y];
                int w = balls[WEST][y];
                balls[EAST][y] = (e & ~last) << 1 | w & 1;
                balls[WEST][y] = w >> 1 | e & last;
            }
            int turning = balls[NORTH][high - 1];
            int returning = balls[SOUTH][0];
            for (int y = high - 1; y > 0; y--) {
                balls[NORTH][y] = balls[NORTH][y - 1];
            }
            for (int y = 0; y < high - 1; y++) {
                balls[SOUTH][y] = balls[SOUTH][y + 1];
            }
            balls[NORTH][0] = returning;
            balls[SOUTH][high - 1] = turning;
        }

        private void moveAllBack() {
            int last = 1 << wide - 1;
            for (int y = 0; y < high; y++) {
                int e = balls[EAST][y];
                int w = balls[WEST][y];
                balls[EAST][y] = e >> 1 | w & last;
                balls[WEST][y] = (w & ~last) << 1 | e & 1;
            }
            int turning = balls[NORTH][0];
            int returning = balls[SOUTH][high - 1];
            for (int y = 0; y < high - 1; y++) {
                balls[NORTH][y] = balls[NORTH][y + 1];
            }
            for (int y = high - 1; y > 0; y--) {
                balls[SOUTH][y] = balls[SOUTH][y - 1];
            }
            balls[NORTH][high - 1] = returning;
            balls[SOUTH][0] = turning;
        }
    }

    /** The FEWEST MOVES over a row of places; which are full is held as bits, place 1 lowest. */
    private static final class Trails {
        static final int MOST_PLACES = 12;

        private static final int STATES = 4096;

        private int[] far = new int[0];
        private int[] queue = new int[0];
        private int[] moves = new int[0];
        private int told;

        Trails() {
        }

        int fewestMoves(int n, int k) {
            if (far.length == 0) {
                // Made at the first call alone: most objects are never asked for it.
                far = new int[STATES];
                queue = new int[STATES];
                moves = new int[STATES];
            }
            measure(n, k);
            if (far[0] == NONE) {
                return NONE;
            }
            told = far[0];
            int full = 0;
            for (int i = 0; i < told; i++) {
                int place = placeNearer(full, n, far[full] - 1);
                moves[i] = place + 1;
                full ^= 1 << place;
            }
            return told;
        }

        /** How far the last place alone is from each state; a MOVE undoes itself, so it is measured from there. */
        private void measure(int n, int k) {
            Arrays.fill(far, 0, 1 << n, NONE);
            int goal = 1 << n - 1;
            far[goal] = 0;
            queue[0] = goal;
            int size = 1;
            for (int i = 0; i < STATES && i < size && far[0] == NONE; i++) {
                int full = queue[i];
                for (int place = 0; place < n; place++) {
                    int next = full ^ 1 << place;
                    boolean fresh = far[next] == NONE && size < STATES;
                    if (fresh && mayChange(full, place) && Integer.bitCount(next) <= k) {
                        far[next] = far[full] + 1;
                        queue[size] = next;
                        size++;
                    }
                }
            }
        }

        private static boolean mayChange(int full, int place) {
            return place == 0 || (full >> place - 1 & 1) != 0;
        }

        private int placeNearer(int full, int n, int wanted) {
            for (int place = 0; place < n; place++) {
                if (mayChange(full, place) && far[full ^ 1 << place] == wanted) {
                    return place;
                }
            }
            return 0;
        }

        int moveAt(int i) {
            return i < 0 || i >= told ? NONE : moves[i];
        }
    }

    /** A watched FLOOR, what was SEEN of it and put RIGHT, and which STEP may be CRACKED. */
    private static final class Cracks {
        static final int LAST_TOLD = 999;

        private static final int MOST_SEEN = 20;
        private static final int UNCRACKED = 40;
        private static final int CASES = 41;

        private final int[] seenTold = new int[MOST_SEEN];
        private final int[] seenRow = new int[MOST_SEEN];
        private final int[] seenOut = new int[MOST_SEEN];
        private final int[] rightTold = new int[MOST_SEEN];
        private final int[] rightOf = new int[MOST_SEEN];
        private final int[] rightOut = new int[MOST_SEEN];
        private final int[] now = new int[MOST_ROWS];
        private final int[] whence = new int[MOST_ROWS];
        private final int[] heaps = new int[MOST_ROWS];
        // What comes out of a ROW if a STEP is cracked: MOST_ROWS of them for each STEP, then UNCRACKED.
        private int[] outs = new int[0];
        private boolean watching;
        private int steps;
        private int rows = MOST_ROWS;
        private int seen;
        private int rights;
        private int latest;

        Cracks() {
        }

        boolean watching() {
            return watching;
        }

        int seen() {
            return seen;
        }

        int rights() {
            return rights;
        }

        void begin(Floor floor) {
            if (outs.length == 0) {
                // Made at the first call alone: most objects never watch a FLOOR.
                outs = new int[CASES * MOST_ROWS];
            }
            watching = true;
            steps = floor.steps();
            rows = floor.rows();
            seen = 0;
            rights = 0;
            latest = 0;
            fillOuts(floor);
        }

        /**
         * With a STEP left out, a ROW comes out as the ROW would that stands, ahead of that STEP, where the STEP
         * would have brought this one (a STEP undoes itself): so each case is read from the whole FLOOR's TABLE.
         */
        private void fillOuts(Floor floor) {
            int whole = UNCRACKED * MOST_ROWS;
            for (int row = 0; row < rows; row++) {
                now[row] = row;
                outs[whole + row] = floor.outOf(row, false);
            }
            for (int i = 0; i < steps; i++) {
                for (int row = 0; row < rows; row++) {
                    whence[now[row]] = row;
                }
                for (int row = 0; row < rows; row++) {
                    int passed = floor.pass(now[row], i);
                    outs[i * MOST_ROWS + row] = outs[whole + whence[passed]];
                    now[row] = passed;
                }
            }
        }

        private boolean noTelling(int told) {
            return told < latest || told > LAST_TOLD;
        }

        private boolean noRow(int row) {
            return row < 0 || row >= rows;
        }

        int addSeen(int told, int row, int out) {
            if (noTelling(told) || noRow(row) || noRow(out)) {
                return RANGE;
            }
            if (!watching) {
                return STATE;
            }
            if (seen >= MOST_SEEN) {
                return FULL;
            }
            seenTold[seen] = told;
            seenRow[seen] = row;
            seenOut[seen] = out;
            latest = told;
            seen++;
            return seen - 1;
        }

        int putRight(int told, int k, int out) {
            if (noTelling(told) || k < 0 || k >= seen || noRow(out)) {
                return RANGE;
            }
            if (rights >= MOST_SEEN) {
                return FULL;
            }
            rightTold[rights] = told;
            rightOf[rights] = k;
            rightOut[rights] = out;
            latest = told;
            rights++;
            int often = 0;
            for (int i = 0; i < rights; i++) {
                if (rightOf[i] == k) {
                    often++;
                }
            }
            return often;
        }

        /** The out of SEEN k as it was known; the latest putting RIGHT by then counts. */
        private int knownOut(int k, int known) {
            int out = seenOut[k];
            for (int i = 0; i < rights; i++) {
                if (rightOf[i] == k && rightTold[i] <= known) {
                    out = rightOut[i];
                }
            }
            return out;
        }

        long fitting(int known) {
            long fit = 1L << UNCRACKED;
            for (int i = 0; i < steps; i++) {
                fit |= 1L << i;
            }
            for (int k = 0; k < seen; k++) {
                if (seenTold[k] <= known) {
                    fit = leaveFitting(fit, seenRow[k], knownOut(k, known));
                }
            }
            return fit;
        }

        private long leaveFitting(long fit, int row, int out) {
            long left = fit;
            for (int c = 0; c < CASES; c++) {
                if ((left >> c & 1) != 0 && outs[c * MOST_ROWS + row] != out) {
                    left &= ~(1L << c);
                }
            }
            return left;
        }

        /** LOOK; NONE if every ROW brings all of FIT out as one heap. */
        int bestRow() {
            long fit = fitting(LAST_TOLD);
            int best = NONE;
            int least = Long.bitCount(fit);
            for (int row = 0; row < rows; row++) {
                int greatest = greatestHeap(fit, row);
                if (greatest < least) {
                    least = greatest;
                    best = row;
                }
            }
            return best;
        }

        private int greatestHeap(long fit, int row) {
            int greatest = 0;
            for (int c = 0; c < CASES; c++) {
                if ((fit >> c & 1) != 0) {
                    int out = outs[c * MOST_ROWS + row];
                    heaps[out]++;
                    greatest = Math.max(greatest, heaps[out]);
                }
            }
            for (int c = 0; c < CASES; c++) {
                heaps[outs[c * MOST_ROWS + row]] = 0;
            }
            return greatest;
        }
    }
}
