/**
 * A signal machine that does its program packet by packet: up to eight words in one cycle, one for
 * each unit, whose writes land cycles later and whose branches go after five more packets. It minds
 * nothing for the program: where the program breaks a rule, it stops in the state that tells which.
 */
public final class WideMachine {
    public static final int NONE = -1;

    private static final int LEAST_WORDS = 16;
    private static final int MOST_WORDS = 256;
    private static final int MOST_CYCLES = 2000;
    private static final int REGISTERS = 32;
    private static final int LINES = 4;
    private static final int LAST_IN_ROW = 7;
    private static final int MOST_WAIT = 15;

    private static final int GOING = 0;
    private static final int NO_END_IN_ROW = 1;
    private static final int ILL_FORMED = 2;
    private static final int UNIT_TWICE = 3;
    private static final int CROSSED_TWICE = 4;
    private static final int WRITES_CLASH = 5;
    private static final int BRANCHES_CLASH = 6;
    private static final int BEYOND_DATA = 7;
    private static final int BEYOND_PROGRAM = 8;
    private static final int HALTED = 9;

    private final int[] program;
    private final int[] data;
    private final int[] registers;
    private final Writes writes;
    private final Branches branches;
    private int state;
    private int address;
    private int cycles;
    private int waits;
    private int returnAddress;
    private int raisedLines;
    private boolean letsIn;

    public WideMachine(int program, int data) {
        this.program = new int[nearestSize(program)];
        this.data = new int[nearestSize(data)];
        this.registers = new int[REGISTERS];
        this.writes = new Writes();
        this.branches = new Branches();
    }

    public boolean word(int address, int w) {
        if (address < 0 || address >= program.length) {
            return false;
        }
        program[address] = w;
        return true;
    }

    public boolean poke(int address, int v) {
        if (!isInData(address)) {
            return false;
        }
        data[address] = v;
        return true;
    }

    public int peek(int address) {
        return isInData(address) ? data[address] : 0;
    }

    public boolean set(int register, int v) {
        if (register < 0 || register >= REGISTERS) {
            return false;
        }
        registers[register] = v;
        return true;
    }

    public int get(int register) {
        return register < 0 || register >= REGISTERS ? 0 : registers[register];
    }

    public int run(int n) {
        if (n < 0 || n > MOST_CYCLES) {
            return NONE;
        }
        int done = 0;
        while (done < n && state == GOING) {
            doCycle();
            done++;
        }
        return done;
    }

    public int about(int what) {
        switch (what) {
            case 0: return state;
            case 1: return address;
            case 2: return cycles;
            case 3: return writes.count;
            case 4: return branches.count;
            case 5: return waits;
            case 6: return returnAddress;
            case 7: return letsIn ? 1 : 0;
            case 8: return raisedLines;
            default: return NONE;
        }
    }

    public int due(int i, int what) {
        if (i < 0 || i >= writes.count) {
            return NONE;
        }
        switch (what) {
            case 0: return writes.targets[i];
            case 1: return writes.values[i];
            case 2: return writes.times[i];
            default: return NONE;
        }
    }

    public boolean raise(int line) {
        if (line < 0 || line >= LINES || isRaised(line)) {
            return false;
        }
        raisedLines |= 1 << line;
        return true;
    }

    public void letIn(boolean is) {
        letsIn = is;
    }

    public boolean start(int address) {
        if (address < 0 || address >= program.length) {
            return false;
        }
        this.address = address;
        state = GOING;
        waits = 0;
        writes.clear();
        branches.clear();
        return true;
    }

    private static int nearestSize(int words) {
        return Math.max(LEAST_WORDS, Math.min(MOST_WORDS, words));
    }

    private boolean isInData(int address) {
        return address >= 0 && address < data.length;
    }

    private boolean isRaised(int line) {
        return (raisedLines >> line & 1) != 0;
    }

    private void doCycle() {
        cycles++;
        landWrites();
        if (state == GOING) {
            takeBranch();
        }
        if (state != GOING) {
            return;
        }
        if (waits > 0) {
            waits--;
            return;
        }
        takeInterrupt();
        int end = endOfPacket();
        state = faultOfPacket(end);
        if (state == GOING) {
            doPacket(end);
            address = end;
        }
    }

    private void landWrites() {
        writes.comeNearer();
        if (writes.clash()) {
            state = WRITES_CLASH;
        } else {
            writes.land(registers);
        }
    }

    private void takeBranch() {
        branches.comeNearer();
        int arrived = branches.arrived();
        if (arrived > 1) {
            state = BRANCHES_CLASH;
        } else if (arrived == 1) {
            address = branches.takeFirst();
        }
    }

    private void takeInterrupt() {
        if (!letsIn || branches.count > 0) {
            return;
        }
        for (int line = 0; line < LINES; line++) {
            if (isRaised(line)) {
                raisedLines &= ~(1 << line);
                letsIn = false;
                returnAddress = address;
                address = 8 * line + 8;
                return;
            }
        }
    }

    /** The address behind the packet, NONE if the packet has no end in its row and the program. */
    private int endOfPacket() {
        if (address < 0) {
            return NONE;
        }
        int lastOfRow = address | LAST_IN_ROW;
        for (int at = address; at <= lastOfRow && at < program.length; at++) {
            if (!Word.goesOn(program[at])) {
                return at + 1;
            }
        }
        return NONE;
    }

    private int faultOfPacket(int end) {
        if (end == NONE) {
            boolean isRowInProgram = address >= 0 && (address | LAST_IN_ROW) < program.length;
            return isRowInProgram ? NO_END_IN_ROW : BEYOND_PROGRAM;
        }
        if (hasIllFormed(end)) {
            return ILL_FORMED;
        }
        if (hasUnitTwice(end)) {
            return UNIT_TWICE;
        }
        if (hasCrossedTwice(end)) {
            return CROSSED_TWICE;
        }
        return goesBeyondData(end) ? BEYOND_DATA : GOING;
    }

    private boolean hasIllFormed(int end) {
        for (int at = address; at < end; at++) {
            if (Word.isIllFormed(program[at])) {
                return true;
            }
        }
        return false;
    }

    private boolean hasUnitTwice(int end) {
        int seen = 0;
        for (int at = address; at < end; at++) {
            int unit = 1 << Word.unit(program[at]);
            if ((seen & unit) != 0) {
                return true;
            }
            seen |= unit;
        }
        return false;
    }

    private boolean hasCrossedTwice(int end) {
        int seen = 0;
        for (int at = address; at < end; at++) {
            if (Word.crosses(program[at])) {
                int side = 1 << Word.side(program[at]);
                if ((seen & side) != 0) {
                    return true;
                }
                seen |= side;
            }
        }
        return false;
    }

    private boolean goesBeyondData(int end) {
        for (int at = address; at < end; at++) {
            int w = program[at];
            int code = Word.code(w);
            boolean isOnData = code == Word.LOAD || code == Word.STORE;
            if (isOnData && isConditionTrue(w) && !isInData(dataAddress(w))) {
                return true;
            }
        }
        return false;
    }

    private boolean isConditionTrue(int w) {
        int register = Word.conditionRegister(w);
        if (register == NONE) {
            return true;
        }
        return (registers[register] == 0) == Word.isOnZero(w);
    }

    private int dataAddress(int w) {
        return registers[Word.a(w)] + operandB(w);
    }

    private int operandB(int w) {
        return Word.isNumberB(w) ? Word.numberB(w) : registers[Word.b(w)];
    }

    private void doPacket(int end) {
        for (int at = address; at < end; at++) {
            if (isConditionTrue(program[at])) {
                doWord(program[at]);
            }
        }
        // Only now: a LOAD of the packet, wherever it stands, reads the data as they were.
        doStores(end);
    }

    private void doWord(int w) {
        switch (Word.code(w)) {
            case Word.GO:
                branches.add(Word.target(w));
                break;
            case Word.GO_TO_B:
                branches.add(operandB(w));
                break;
            case Word.BACK:
                branches.add(returnAddress);
                letsIn = true;
                break;
            case Word.WAIT:
                waits = Math.max(waits, operandB(w) & MOST_WAIT);
                break;
            case Word.HALT:
                // The rest of the cycle does not look at the state, so it is done all the same.
                state = HALTED;
                break;
            case Word.STORE:
                break;
            default:
                writes.add(Word.d(w), valueOf(w), Word.timeOfWrite(w));
                break;
        }
    }

    private int valueOf(int w) {
        int code = Word.code(w);
        int a = registers[Word.a(w)];
        int b = operandB(w);
        switch (code) {
            case Word.CONST: return Word.number(w);
            case Word.HIGH: return Word.number(w) * 65536 | registers[Word.d(w)] & 0xFFFF;
            case Word.LOAD: return peek(a + b);
            default: break;
        }
        switch (Word.kind(w)) {
            case Word.KIND_L: return Values.ofL(code, a, b);
            case Word.KIND_S: return Values.ofS(code, a, b);
            case Word.KIND_M: return Values.ofM(code, a, b);
            default: return Values.ofD(code, a, b);
        }
    }

    private void doStores(int end) {
        for (int at = address; at < end; at++) {
            int w = program[at];
            if (Word.code(w) == Word.STORE && isConditionTrue(w)) {
                poke(dataAddress(w), registers[Word.d(w)]);
            }
        }
    }

    /** How a word is read; an operation's code is its kind, times 16, and its number in the word. */
    private static final class Word {
        static final int KIND_L = 0;
        static final int KIND_S = 1;
        static final int KIND_M = 2;

        static final int L_ADD = 0x00;
        static final int L_SUB = 0x01;
        static final int AND = 0x02;
        static final int OR = 0x03;
        static final int XOR = 0x04;
        static final int EQ = 0x05;
        static final int GT = 0x06;
        static final int LT = 0x07;
        static final int SADD = 0x08;
        static final int NORM = 0x09;
        static final int S_ADD = 0x10;
        static final int S_SUB = 0x11;
        static final int SHL = 0x12;
        static final int SHR = 0x13;
        static final int SHRU = 0x14;
        static final int CONST = 0x15;
        static final int HIGH = 0x16;
        static final int GO = 0x17;
        static final int GO_TO_B = 0x18;
        static final int BACK = 0x19;
        static final int WAIT = 0x1A;
        static final int HALT = 0x1B;
        static final int MPY = 0x20;
        static final int MPYH = 0x21;
        static final int MPYU = 0x22;
        static final int SMPY = 0x23;
        static final int D_ADD = 0x30;
        static final int D_SUB = 0x31;
        static final int LOAD = 0x32;
        static final int STORE = 0x33;

        private static final int MOST_CONDITION = 5;

        static boolean goesOn(int w) {
            return (w & 1) != 0;
        }

        static boolean isOnZero(int w) {
            return (w >> 4 & 1) != 0;
        }

        static int unit(int w) {
            return w >> 5 & 7;
        }

        static int kind(int w) {
            return w >> 5 & 3;
        }

        static int side(int w) {
            return w >> 7 & 1;
        }

        static int code(int w) {
            return (w >> 5 & 3) << 4 | w >> 8 & 15;
        }

        static int d(int w) {
            return w >> 12 & 31;
        }

        static int a(int w) {
            return w >> 17 & 31;
        }

        static int b(int w) {
            return w >> 22 & 31;
        }

        static boolean isNumberB(int w) {
            return (w >> 27 & 1) != 0;
        }

        static int numberB(int w) {
            return w << 5 >> 27;
        }

        /** The number of CONST and HIGH. */
        static int number(int w) {
            return w >> 17;
        }

        /** The address of the first GO, which has no sign. */
        static int target(int w) {
            return w >>> 12;
        }

        static int timeOfWrite(int w) {
            if (code(w) == LOAD) {
                return 5;
            }
            return kind(w) == KIND_M ? 2 : 1;
        }

        static int conditionRegister(int w) {
            switch (w >> 1 & 7) {
                case 1: return 16;
                case 2: return 17;
                case 3: return 18;
                case 4: return 1;
                case 5: return 2;
                default: return NONE;
            }
        }

        static boolean isIllFormed(int w) {
            int code = code(w);
            int condition = w >> 1 & 7;
            if (condition > MOST_CONDITION || condition == 0 && isOnZero(w)) {
                return true;
            }
            if (!isOperation(code) || w >>> 28 != 0 && !hasLongNumber(code)) {
                return true;
            }
            return hasD(code) && d(w) >> 4 != side(w) || hasA(code) && a(w) >> 4 != side(w);
        }

        /** Whether it has a register b of the other side. */
        static boolean crosses(int w) {
            return hasB(code(w)) && !isNumberB(w) && b(w) >> 4 != side(w);
        }

        private static boolean isOperation(int code) {
            switch (code >> 4) {
                case KIND_L: return code <= NORM;
                case KIND_S: return code <= HALT;
                case KIND_M: return code <= SMPY;
                default: return code <= STORE;
            }
        }

        private static boolean hasLongNumber(int code) {
            return code == CONST || code == HIGH || code == GO;
        }

        private static boolean hasD(int code) {
            return code < GO || code > HALT;
        }

        private static boolean hasA(int code) {
            return code != NORM && (code < CONST || code > HALT);
        }

        private static boolean hasB(int code) {
            return !hasLongNumber(code) && code != BACK && code != HALT;
        }
    }

    /** What the operations that have nothing to do but reckon make of a and b. */
    private static final class Values {
        private static final int MOST_INT = 2147483647;
        private static final int LEAST_INT = -2147483648;

        static int ofL(int code, int a, int b) {
            switch (code) {
                case Word.L_ADD: return a + b;
                case Word.L_SUB: return a - b;
                case Word.AND: return a & b;
                case Word.OR: return a | b;
                case Word.XOR: return a ^ b;
                case Word.EQ: return a == b ? 1 : 0;
                case Word.GT: return a > b ? 1 : 0;
                case Word.LT: return a < b ? 1 : 0;
                case Word.SADD: return nearestInt((long) a + b);
                case Word.NORM: return bitsLikeHighest(b);
                default: return 0;
            }
        }

        static int ofS(int code, int a, int b) {
            switch (code) {
                case Word.S_ADD: return a + b;
                case Word.S_SUB: return a - b;
                case Word.SHL: return a << (b & 31);
                case Word.SHR: return a >> (b & 31);
                case Word.SHRU: return a >>> (b & 31);
                default: return 0;
            }
        }

        static int ofM(int code, int a, int b) {
            switch (code) {
                case Word.MPY: return (short) a * (short) b;
                case Word.MPYH: return (a >> 16) * (b >> 16);
                case Word.MPYU: return (a & 0xFFFF) * (b & 0xFFFF);
                case Word.SMPY: return nearestInt(2L * ((short) a * (short) b));
                default: return 0;
            }
        }

        static int ofD(int code, int a, int b) {
            switch (code) {
                case Word.D_ADD: return a + b;
                case Word.D_SUB: return a - b;
                default: return 0;
            }
        }

        private static int nearestInt(long v) {
            if (v > MOST_INT) {
                return MOST_INT;
            }
            return v < LEAST_INT ? LEAST_INT : (int) v;
        }

        private static int bitsLikeHighest(int v) {
            int highest = v >>> 31;
            int like = 0;
            for (int bit = 30; bit >= 0 && (v >>> bit & 1) == highest; bit--) {
                like++;
            }
            return like;
        }
    }

    /** The writes that are due, in the order in which their words were done. */
    private static final class Writes {
        // The most that can be due at once: four of L and S from one cycle, two of M from each of
        // two cycles, two LOADs from each of five.
        private static final int ROOM = 18;

        final int[] targets = new int[ROOM];
        final int[] values = new int[ROOM];
        final int[] times = new int[ROOM];
        int count;

        void add(int target, int value, int time) {
            if (count < ROOM) {
                targets[count] = target;
                values[count] = value;
                times[count] = time;
                count++;
            }
        }

        void clear() {
            count = 0;
        }

        void comeNearer() {
            for (int i = 0; i < count; i++) {
                times[i]--;
            }
        }

        /** Whether two that land now have one register. */
        boolean clash() {
            int seen = 0;
            for (int i = 0; i < count; i++) {
                if (times[i] == 0) {
                    int target = 1 << targets[i];
                    if ((seen & target) != 0) {
                        return true;
                    }
                    seen |= target;
                }
            }
            return false;
        }

        void land(int[] registers) {
            int kept = 0;
            for (int i = 0; i < count; i++) {
                if (times[i] == 0) {
                    registers[targets[i]] = values[i];
                } else {
                    targets[kept] = targets[i];
                    values[kept] = values[i];
                    times[kept] = times[i];
                    kept++;
                }
            }
            count = kept;
        }
    }

    /** The branches that are due; as all take equally long, the first to arrive stands first. */
    private static final class Branches {
        private static final int TIME = 6;
        // Two units can branch in a cycle.
        private static final int ROOM = 2 * TIME;

        private final int[] targets = new int[ROOM];
        private final int[] times = new int[ROOM];
        int count;

        void add(int target) {
            if (count < ROOM) {
                targets[count] = target;
                times[count] = TIME;
                count++;
            }
        }

        void clear() {
            count = 0;
        }

        void comeNearer() {
            for (int i = 0; i < count; i++) {
                times[i]--;
            }
        }

        int arrived() {
            int arrived = 0;
            while (arrived < count && times[arrived] == 0) {
                arrived++;
            }
            return arrived;
        }

        int takeFirst() {
            int target = targets[0];
            for (int i = 1; i < count; i++) {
                targets[i - 1] = targets[i];
                times[i - 1] = times[i];
            }
            count--;
            return target;
        }
    }
}
