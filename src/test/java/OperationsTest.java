/** Terms: what each operation makes of its operands, on both sides, and when its write lands. */
public final class OperationsTest {
    private static final int MOST = Integer.MAX_VALUE;
    private static final int LEAST = Integer.MIN_VALUE;

    private static final Check check = new Check();

    public static void main(String[] args) {
        operationsOfL();
        operationsOfS();
        operationsOfM();
        operationsOfD();
        numbers();
        wideNumbers();
        load();
        store();
        check.end();
    }

    /** Looks at an operation's value and time on both sides, b coming from each of them. */
    private static void value(String name, int kind, int operation, int a, int b, int due) {
        for (int side = 0; side < 2; side++) {
            for (int sideOfB = 0; sideOfB < 2; sideOfB++) {
                int base = 16 * side;
                WideMachine x = new WideMachine(16, 16);
                x.set(base + 3, a);
                x.set(16 * sideOfB + 15, b);
                x.word(0, Asm.op(kind + 4 * side, operation, base + 7, base + 3, 16 * sideOfB + 15));
                String text = name + "(" + a + ", " + b + ") on side " + side + ", b of " + sideOfB;
                check.same(text + ": run", x.run(1), 1);
                check.same(text + ": state", x.about(0), 0);
                check.same(text + ": writes", x.about(3), 1);
                check.same(text + ": register", x.due(0, 0), base + 7);
                check.same(text + ": value", x.due(0, 1), due);
                check.same(text + ": time", x.due(0, 2), kind == Asm.M0 ? 2 : 1);
            }
        }
    }

    private static void sums(int kind) {
        value("ADD", kind, Asm.ADD, 5, 6, 11);
        value("ADD", kind, Asm.ADD, MOST, 1, LEAST);
        value("ADD", kind, Asm.ADD, LEAST, -1, MOST);
        value("SUB", kind, Asm.SUB, 5, 6, -1);
        value("SUB", kind, Asm.SUB, LEAST, 1, MOST);
        value("SUB", kind, Asm.SUB, 0, LEAST, LEAST);
    }

    private static void operationsOfL() {
        sums(Asm.L0);
        value("AND", Asm.L0, Asm.AND, 0b1100, 0b1010, 0b1000);
        value("AND", Asm.L0, Asm.AND, -1, LEAST, LEAST);
        value("OR", Asm.L0, Asm.OR, 0b1100, 0b1010, 0b1110);
        value("XOR", Asm.L0, Asm.XOR, 0b1100, 0b1010, 0b0110);
        value("EQ", Asm.L0, Asm.EQ, 4, 4, 1);
        value("EQ", Asm.L0, Asm.EQ, 4, -4, 0);
        value("GT", Asm.L0, Asm.GT, 5, 4, 1);
        value("GT", Asm.L0, Asm.GT, 4, 4, 0);
        value("GT", Asm.L0, Asm.GT, -1, 1, 0);
        value("GT", Asm.L0, Asm.GT, MOST, LEAST, 1);
        value("LT", Asm.L0, Asm.LT, 5, 4, 0);
        value("LT", Asm.L0, Asm.LT, 4, 4, 0);
        value("LT", Asm.L0, Asm.LT, -1, 1, 1);
        value("LT", Asm.L0, Asm.LT, LEAST, MOST, 1);
        value("SADD", Asm.L0, Asm.SADD, 5, -8, -3);
        value("SADD", Asm.L0, Asm.SADD, MOST, 0, MOST);
        value("SADD", Asm.L0, Asm.SADD, MOST, 1, MOST);
        value("SADD", Asm.L0, Asm.SADD, MOST, MOST, MOST);
        value("SADD", Asm.L0, Asm.SADD, LEAST, -1, LEAST);
        value("SADD", Asm.L0, Asm.SADD, LEAST, LEAST, LEAST);
        value("SADD", Asm.L0, Asm.SADD, LEAST, MOST, -1);
        value("NORM", Asm.L0, Asm.NORM, 99, 0, 31);
        value("NORM", Asm.L0, Asm.NORM, 99, -1, 31);
        value("NORM", Asm.L0, Asm.NORM, 99, 1, 30);
        value("NORM", Asm.L0, Asm.NORM, 99, -2, 30);
        value("NORM", Asm.L0, Asm.NORM, 99, MOST, 0);
        value("NORM", Asm.L0, Asm.NORM, 99, LEAST, 0);
        value("NORM", Asm.L0, Asm.NORM, 99, 0x0400FFFF, 4);
        value("NORM", Asm.L0, Asm.NORM, 99, 0xF0000FFF, 3);
    }

    private static void operationsOfS() {
        sums(Asm.S0);
        value("SHL", Asm.S0, Asm.SHL, 3, 4, 48);
        value("SHL", Asm.S0, Asm.SHL, 3, 31, LEAST);
        value("SHL", Asm.S0, Asm.SHL, 3, 32, 3);
        value("SHL", Asm.S0, Asm.SHL, 3, -31, 6);
        value("SHR", Asm.S0, Asm.SHR, -16, 2, -4);
        value("SHR", Asm.S0, Asm.SHR, LEAST, 31, -1);
        value("SHR", Asm.S0, Asm.SHR, 16, 34, 4);
        value("SHRU", Asm.S0, Asm.SHRU, -16, 28, 15);
        value("SHRU", Asm.S0, Asm.SHRU, LEAST, 31, 1);
        value("SHRU", Asm.S0, Asm.SHRU, -1, 64, -1);
    }

    private static void operationsOfM() {
        value("MPY", Asm.M0, Asm.MPY, 0x00050003, 0x0007FFFE, -6);
        value("MPY", Asm.M0, Asm.MPY, 0x8000, 0x8000, 1 << 30);
        value("MPY", Asm.M0, Asm.MPY, 0x7FFF, 0x8000, -32767 * 32768);
        value("MPYH", Asm.M0, Asm.MPYH, 0x0005FFFF, 0xFFFE1234, -10);
        value("MPYH", Asm.M0, Asm.MPYH, LEAST, LEAST, 1 << 30);
        value("MPYU", Asm.M0, Asm.MPYU, 0x00050003, 0x0007FFFE, 3 * 0xFFFE);
        value("MPYU", Asm.M0, Asm.MPYU, -1, -1, 0xFFFE0001);
        value("SMPY", Asm.M0, Asm.SMPY, 0x00050003, 0x0007FFFE, -12);
        value("SMPY", Asm.M0, Asm.SMPY, 0x8000, 0x8000, MOST);
        value("SMPY", Asm.M0, Asm.SMPY, 0x8000, 0x7FFF, -2 * 32767 * 32768);
        value("SMPY", Asm.M0, Asm.SMPY, 0x7FFF, 0x7FFF, 2 * 32767 * 32767);
    }

    private static void operationsOfD() {
        sums(Asm.D0);
    }

    private static int valueOf(int w, int register3) {
        WideMachine x = new WideMachine(16, 16);
        x.set(3, register3);
        x.word(0, w);
        x.run(1);
        check.same("state after " + w, x.about(0), 0);
        return x.due(0, 1);
    }

    private static void numbers() {
        check.same("ADD 15", valueOf(Asm.opN(Asm.L0, Asm.ADD, 4, 3, 15), 100), 115);
        check.same("ADD -16", valueOf(Asm.opN(Asm.L0, Asm.ADD, 4, 3, -16), 100), 84);
        check.same("ADD -1", valueOf(Asm.opN(Asm.D0, Asm.ADD, 4, 3, -1), 100), 99);
        check.same("SHL -16", valueOf(Asm.opN(Asm.S0, Asm.SHL, 4, 3, -16), 3), 3 << 16);
        check.same("MPY -16", valueOf(Asm.opN(Asm.M0, Asm.MPY, 4, 3, -16), 100), -1600);
        check.same("MPYH -16", valueOf(Asm.opN(Asm.M0, Asm.MPYH, 4, 3, -16), 5 << 16), -5);
        check.same("MPYU -1", valueOf(Asm.opN(Asm.M0, Asm.MPYU, 4, 3, -1), 2), 2 * 65535);
        check.same("NORM 7", valueOf(Asm.opN(Asm.L0, Asm.NORM, 4, 0, 7), 0), 28);
    }

    private static void wideNumbers() {
        check.same("CONST 0", valueOf(Asm.wide(Asm.S0, Asm.CONST, 3, 0), 9), 0);
        check.same("CONST 16383", valueOf(Asm.wide(Asm.S0, Asm.CONST, 3, 16383), 9), 16383);
        check.same("CONST -16384", valueOf(Asm.wide(Asm.S0, Asm.CONST, 3, -16384), 9), -16384);
        check.same("CONST -1", valueOf(Asm.wide(Asm.S0, Asm.CONST, 3, -1), 9), -1);
        check.same("HIGH 1", valueOf(Asm.wide(Asm.S0, Asm.HIGH, 3, 1), 0x7777FFFE), 0x1FFFE);
        check.same("HIGH -1", valueOf(Asm.wide(Asm.S0, Asm.HIGH, 3, -1), 0x12345678), 0xFFFF5678);
        check.same("HIGH 16383", valueOf(Asm.wide(Asm.S0, Asm.HIGH, 3, 16383), -1), 0x3FFFFFFF);
        check.same("HIGH -16384", valueOf(Asm.wide(Asm.S0, Asm.HIGH, 3, -16384), 0), -1 << 30);
        WideMachine x = new WideMachine(16, 16);
        x.word(0, Asm.wide(Asm.S1, Asm.CONST, 20, -300));
        x.word(1, Asm.wide(Asm.S1, Asm.HIGH, 20, 7));
        x.run(3);
        check.same("CONST, then HIGH on side 1", x.get(20), 7 << 16 | -300 & 0xFFFF);
    }

    private static void load() {
        for (int side = 0; side < 2; side++) {
            int base = 16 * side;
            WideMachine x = new WideMachine(32, 20);
            Asm.idles(x, 0, 32);
            x.set(base + 3, 25);
            x.poke(19, 1234);
            x.poke(9, 55);
            x.word(0, Asm.opN(Asm.D0 + 4 * side, Asm.LOAD, base + 1, base + 3, -6));
            x.word(1, Asm.opN(Asm.D0 + 4 * side, Asm.LOAD, base + 2, base + 3, -16));
            x.run(1);
            check.same("LOAD: time", x.due(0, 2), 5);
            check.same("LOAD: value", x.due(0, 1), 1234);
            x.poke(19, 4321);
            x.run(4);
            check.same("LOAD: before it lands", x.get(base + 1), 0);
            x.run(1);
            check.same("LOAD: landed, as it was", x.get(base + 1), 1234);
            check.same("LOAD: the next one not yet", x.get(base + 2), 0);
            x.run(1);
            check.same("LOAD: the next one", x.get(base + 2), 55);
        }
    }

    private static void store() {
        for (int side = 0; side < 2; side++) {
            int base = 16 * side;
            WideMachine x = new WideMachine(16, 20);
            x.set(base + 3, 25);
            x.set(base + 4, -77);
            x.set(5, -25);
            x.word(0, Asm.opN(Asm.D0 + 4 * side, Asm.STORE, base + 4, base + 3, -6));
            x.word(1, Asm.op(Asm.D0 + 4 * side, Asm.STORE, base + 3, base + 3, 5));
            x.run(1);
            check.same("STORE: at once", x.peek(19), -77);
            check.same("STORE: no write is due", x.about(3), 0);
            x.run(1);
            check.same("STORE at a register's sum", x.peek(0), 25);
            check.same("STORE: register d stays", x.get(base + 4), -77);
        }
    }
}
