/**
 * All promises together: runs of 512 calls on machines with made-up programs, each answer compared
 * with that of Model. Where a single sentence has a test that quotes it, this one looks for what
 * several of them make together.
 */
public final class ModelTest {
    private static final int MACHINES = 3000;
    private static final int CALLS = 512;
    private static final int[] OPERATIONS = {10, 12, 4, 4};
    private static final int[] EDGES = {
        0, 1, -1, 2, -2, 3, 15, 16, -16, 31, 32, 33, 32767, 32768, -32768, 65535, 65536, -65536,
        Integer.MAX_VALUE, Integer.MIN_VALUE, Integer.MAX_VALUE - 1, Integer.MIN_VALUE + 1, 0x80008000,
    };
    // The words that a packet has, mostly: more than these would seldom be free of faults.
    private static final int FEW_WORDS = 4;

    private static final Check check = new Check();

    private final int[] states = new int[10];
    private long seed = 987654321;
    private int words;
    private int sizeOfData;
    private int interrupts;
    private int mostWrites;
    private int calls;

    public static void main(String[] args) {
        new ModelTest().all();
        check.end();
    }

    private void all() {
        for (int i = 0; i < MACHINES; i++) {
            machine(i);
        }
        for (int state = 0; state < states.length; state++) {
            check.isTrue("state " + state + " was met often", states[state] > 50);
        }
        check.isTrue("interrupts were taken", interrupts > 100);
        check.isTrue("many writes were due at once", mostWrites >= 10);
    }

    private int below(int bound) {
        seed = seed * 6364136223846793005L + 1442695040888963407L;
        return (int) ((seed >>> 33) % bound);
    }

    private boolean oneIn(int n) {
        return below(n) == 0;
    }

    private void machine(int i) {
        words = oneIn(2) ? 16 + below(60) : below(280);
        sizeOfData = below(60);
        WideMachine x = new WideMachine(words, sizeOfData);
        Model m = new Model(words, sizeOfData);
        calls = 0;
        for (int at = 0; at < 64; at += 8) {
            row(x, m, at);
        }
        for (int side = 0; side < 2; side++) {
            setBoth(x, m, 16 * side + 15, below(16));
            setBoth(x, m, 16 * side + below(15), EDGES[below(EDGES.length)]);
        }
        while (calls < CALLS) {
            String text = "machine " + i + ", call " + calls;
            call(text, x, m);
        }
    }

    /** Fills a row with packets that are mostly well formed and end in it. */
    private void row(WideMachine x, Model m, int from) {
        int at = from;
        while (at < from + 8) {
            int room = from + 8 - at;
            int size = Math.min(room, 1 + below(oneIn(6) ? 8 : FEW_WORDS));
            int units = 0;
            int across = 0;
            for (int i = 0; i < size; i++) {
                int unit = below(8);
                while ((units >> unit & 1) != 0) {
                    unit = below(8);
                }
                units |= 1 << unit;
                boolean mayCross = (across >> unit / 4 & 1) == 0;
                int w = word(unit, mayCross) | (i + 1 < size ? 1 : 0);
                if ((w >> 27 & 1) == 0 && (w >> 26 & 1) != unit / 4) {
                    across |= 1 << unit / 4;
                }
                if (oneIn(300)) {
                    w ^= 1 << below(32);
                }
                same("word", x.word(at + i, w), m.word(at + i, w));
            }
            at += size;
        }
    }

    /** Registers 15 and 31 are never written, so that most addresses of LOAD and STORE are data. */
    private int word(int unit, boolean mayCross) {
        int base = unit / 4 * 16;
        int kind = unit % 4;
        int operation = below(OPERATIONS[kind]);
        int condition = oneIn(4) ? 1 + below(5) : 0;
        int ifs = condition << 1 | (condition > 0 ? below(2) << 4 : 0);
        if (kind == 1 && operation >= Asm.CONST) {
            return ifs | steering(unit, operation, base);
        }
        int a = kind == 3 && operation >= Asm.LOAD && !oneIn(30) ? 15 : below(16);
        int w = ifs | Asm.op(unit, operation, base + below(15), base + a, 0);
        if (oneIn(2) || a == 15) {
            return w | 1 << 27 | (a == 15 ? below(8) : below(32)) << 22;
        }
        int sideOfB = mayCross || oneIn(10) ? 16 * below(2) : base;
        return w | sideOfB + below(16) << 22;
    }

    private int steering(int unit, int operation, int base) {
        if (operation <= Asm.HIGH) {
            return Asm.wide(unit, operation, base + below(15), below(1 << 15));
        }
        boolean isBranch = operation == Asm.GO || operation == Asm.GO_TO_B || operation == Asm.BACK;
        if (isBranch && oneIn(3) || operation == Asm.HALT && !oneIn(8)) {
            return Asm.waitN(unit, below(3));
        }
        switch (operation) {
            case Asm.GO: return Asm.go(unit, oneIn(20) ? below(1 << 20) : below(8) * 8);
            case Asm.GO_TO_B: return Asm.goTo(unit, base + (oneIn(4) ? below(16) : 15));
            case Asm.WAIT: return oneIn(8) ? Asm.op(unit, Asm.WAIT, below(32), below(32), base + 3)
                : Asm.waitN(unit, oneIn(8) ? below(32) : below(3));
            default: return Asm.op(unit, operation, below(32), below(32), below(32));
        }
    }

    private int index(int size) {
        return oneIn(10) ? EDGES[below(EDGES.length)] : below(size + 2) - 1;
    }

    private int value() {
        return oneIn(2) ? EDGES[below(EDGES.length)] : below(20);
    }

    private void setBoth(WideMachine x, Model m, int register, int v) {
        same("set", x.set(register, v), m.set(register, v));
    }

    private void same(String text, boolean got, boolean want) {
        calls++;
        check.same(text, got ? 1 : 0, want ? 1 : 0);
    }

    private void same(String text, long got, long want) {
        calls++;
        check.same(text, got, want);
    }

    private void call(String text, WideMachine x, Model m) {
        int i = index(32);
        int v = value();
        switch (below(16)) {
            case 0: same(text + " word", x.word(i, v), m.word(i, v)); break;
            case 1: same(text + " poke", x.poke(i, v), m.poke(i, v)); break;
            case 2: same(text + " peek", x.peek(i), m.peek(i)); break;
            case 3: i = index(14); same(text + " set", x.set(i, v), m.set(i, v)); break;
            case 4: same(text + " get", x.get(i), m.get(i)); break;
            case 5: i = index(9); same(text + " about", x.about(i), m.about(i)); break;
            case 6: i = index(18); v = index(3); same(text + " due", x.due(i, v), m.due(i, v)); break;
            case 7: i = index(4); same(text + " raise", x.raise(i), m.raise(i)); break;
            case 8: letIn(x, m, !oneIn(4)); break;
            case 9: i = index(64); same(text + " start", x.start(i), m.start(i)); break;
            default: run(text, x, m); break;
        }
    }

    private void letIn(WideMachine x, Model m, boolean is) {
        calls++;
        x.letIn(is);
        m.letIn(is);
    }

    private void run(String text, WideMachine x, Model m) {
        if (m.about(0) != 0 && !oneIn(6)) {
            int at = below(8) * 8;
            same(text + " start", x.start(at), m.start(at));
        }
        int linesBefore = m.about(8);
        int n = oneIn(20) ? 1990 + below(13) : oneIn(40) ? -1 : below(4);
        same(text + " run(" + n + ")", x.run(n), m.run(n));
        for (int what = 0; what < 9 && calls < CALLS; what++) {
            same(text + " about(" + what + ")", x.about(what), m.about(what));
        }
        states[m.about(0)]++;
        interrupts += m.about(8) < linesBefore ? 1 : 0;
        mostWrites = Math.max(mostWrites, m.about(3));
        if (oneIn(8)) {
            lookCloser(text, x, m);
        }
    }

    private void lookCloser(String text, WideMachine x, Model m) {
        for (int i = 0; i < m.about(3) && calls < CALLS - 3; i++) {
            for (int what = 0; what < 3; what++) {
                same(text + " due(" + i + ", " + what + ")", x.due(i, what), m.due(i, what));
            }
        }
        for (int i = 0; i < 32 && calls < CALLS; i++) {
            same(text + " get(" + i + ")", x.get(i), m.get(i));
        }
        for (int i = 0; i < 16 && calls < CALLS; i++) {
            same(text + " peek(" + i + ")", x.peek(i), m.peek(i));
        }
    }
}
