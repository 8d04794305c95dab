/** Terms, sentence by sentence: what each operation makes of its operands, on both sides. */
public final class OperationsTest {
    private static final int MOST = Integer.MAX_VALUE;
    private static final int LEAST = Integer.MIN_VALUE;

    private static final Check check = new Check();

    public static void main(String[] args) {
        sumsRunOver();
        productsRunOver();
        addressesRunOver();
        bitByBit();
        comparisons();
        saturatedSums();
        norm();
        shiftUp();
        shiftDownWithSign();
        shiftDownWithZeros();
        lowestFiveBits();
        constants();
        high();
        highOfDAsItIs();
        products();
        productsOfHighest();
        productsWithoutSigns();
        doubledProducts();
        numbers();
        registersOfEitherSide();
        load();
        store();
        nothingWritten();
        check.end();
    }

    /** Looks at an operation's value and time on both sides, b coming from each of them. */
    private static void value(String name, int kind, int operation, int a, int b, int due) {
        for (int side = 0; side < 2; side++) {
            for (int sideOfB = 0; sideOfB < 2; sideOfB++) {
                int base = 16 * side;
                WideMachine x = new WideMachine(16, 16);
                x.set(base + 3, a);
                x.set(16 * sideOfB + 15, b);
                x.word(0, Asm.op(kind + 4 * side, operation, base + 7, base + 3, 16 * sideOfB + 15));
                String text = name + "(" + a + ", " + b + ") on side " + side + ", b of " + sideOfB;
                check.same(text + ": run", x.run(1), 1);
                check.same(text + ": state", x.about(0), 0);
                check.same(text + ": writes", x.about(3), 1);
                check.same(text + ": register", x.due(0, 0), base + 7);
                check.same(text + ": value", x.due(0, 1), due);
                check.same(text + ": time", x.due(0, 2), kind == Asm.M0 ? 2 : 1);
            }
        }
    }

    private static int valueOf(int w, int register3) {
        WideMachine x = new WideMachine(16, 16);
        x.set(3, register3);
        x.word(0, w);
        x.run(1);
        check.same("state after " + w, x.about(0), 0);
        return x.due(0, 1);
    }

    private static void sumsRunOver() {
        check.sentence("Sums and products run over 32 bits (ADD and SUB of L, S and D)");
        for (int kind : new int[] {Asm.L0, Asm.S0, Asm.D0}) {
            value("ADD", kind, Asm.ADD, 5, 6, 11);
            value("ADD", kind, Asm.ADD, MOST, 0, MOST);
            value("ADD", kind, Asm.ADD, MOST, 1, LEAST);
            value("ADD", kind, Asm.ADD, LEAST, -1, MOST);
            value("ADD", kind, Asm.ADD, LEAST, LEAST, 0);
            value("SUB", kind, Asm.SUB, 5, 6, -1);
            value("SUB", kind, Asm.SUB, LEAST, 1, MOST);
            value("SUB", kind, Asm.SUB, MOST, -1, LEAST);
            value("SUB", kind, Asm.SUB, 0, LEAST, LEAST);
        }
    }

    private static void productsRunOver() {
        check.sentence("Sums and products run over 32 bits (MPYU)");
        value("MPYU", Asm.M0, Asm.MPYU, 0xFFFF, 0xFFFF, 0xFFFE0001);
        value("MPYU", Asm.M0, Asm.MPYU, 0x8000, 0xFFFF, 0x7FFF8000);
        value("MPYU", Asm.M0, Asm.MPYU, 0x8001, 0xFFFF, 0x80007FFF);
    }

    private static void addressesRunOver() {
        check.sentence("Sums and products run over 32 bits (the address of LOAD and STORE)");
        WideMachine x = new WideMachine(16, 20);
        x.poke(19, 99);
        x.set(1, MOST);
        x.set(2, LEAST + 20);
        x.word(0, Asm.op(Asm.D0, Asm.LOAD, 3, 1, 2));
        x.word(1, Asm.op(Asm.D0, Asm.STORE, 1, 1, 2));
        x.run(1);
        check.same("LOAD: state", x.about(0), 0);
        check.same("LOAD: value", x.due(0, 1), 99);
        x.run(1);
        check.same("STORE: state", x.about(0), 0);
        check.same("STORE: data word 19", x.peek(19), MOST);
        x.set(2, LEAST);
        x.start(0);
        x.run(1);
        check.same("LOAD of data word -1: state", x.about(0), 7);
    }

    private static void bitByBit() {
        check.sentence("2 AND, 3 OR, 4 XOR");
        value("AND", Asm.L0, Asm.AND, 0b1100, 0b1010, 0b1000);
        value("AND", Asm.L0, Asm.AND, -1, LEAST, LEAST);
        value("OR", Asm.L0, Asm.OR, 0b1100, 0b1010, 0b1110);
        value("OR", Asm.L0, Asm.OR, LEAST, MOST, -1);
        value("XOR", Asm.L0, Asm.XOR, 0b1100, 0b1010, 0b0110);
        value("XOR", Asm.L0, Asm.XOR, -1, MOST, LEAST);
    }

    private static void comparisons() {
        check.sentence("5 EQ, 6 GT, 7 LT (1 if a is equal to, above, below b, else 0)");
        int[][] pairs = {{4, 4}, {5, 4}, {4, 5}, {-1, 1}, {1, -1}, {LEAST, MOST}, {MOST, LEAST}, {0, LEAST},
            {LEAST, 0}, {LEAST, LEAST}, {MOST, MOST}, {MOST, -1}, {-2, -1}};
        for (int[] pair : pairs) {
            long a = pair[0];
            long b = pair[1];
            value("EQ", Asm.L0, Asm.EQ, pair[0], pair[1], a - b == 0 ? 1 : 0);
            value("GT", Asm.L0, Asm.GT, pair[0], pair[1], a - b > 0 ? 1 : 0);
            value("LT", Asm.L0, Asm.LT, pair[0], pair[1], a - b < 0 ? 1 : 0);
        }
    }

    private static void saturatedSums() {
        check.sentence("8 SADD a + b, the nearest int if that runs over");
        value("SADD", Asm.L0, Asm.SADD, 5, -8, -3);
        value("SADD", Asm.L0, Asm.SADD, MOST, 0, MOST);
        value("SADD", Asm.L0, Asm.SADD, MOST - 1, 1, MOST);
        value("SADD", Asm.L0, Asm.SADD, MOST, 1, MOST);
        value("SADD", Asm.L0, Asm.SADD, 1, MOST, MOST);
        value("SADD", Asm.L0, Asm.SADD, MOST, MOST, MOST);
        value("SADD", Asm.L0, Asm.SADD, LEAST, 0, LEAST);
        value("SADD", Asm.L0, Asm.SADD, LEAST + 1, -1, LEAST);
        value("SADD", Asm.L0, Asm.SADD, LEAST, -1, LEAST);
        value("SADD", Asm.L0, Asm.SADD, -1, LEAST, LEAST);
        value("SADD", Asm.L0, Asm.SADD, LEAST, LEAST, LEAST);
        value("SADD", Asm.L0, Asm.SADD, LEAST, MOST, -1);
    }

    private static void norm() {
        check.sentence("9 NORM: how many bits of b below the highest are like it, without a gap");
        value("NORM", Asm.L0, Asm.NORM, 99, 0, 31);
        value("NORM", Asm.L0, Asm.NORM, 99, -1, 31);
        value("NORM", Asm.L0, Asm.NORM, 99, 1, 30);
        value("NORM", Asm.L0, Asm.NORM, 99, -2, 30);
        value("NORM", Asm.L0, Asm.NORM, 99, 2, 29);
        value("NORM", Asm.L0, Asm.NORM, 99, MOST, 0);
        value("NORM", Asm.L0, Asm.NORM, 99, LEAST, 0);
        value("NORM", Asm.L0, Asm.NORM, 99, 0x20000000, 1);
        value("NORM", Asm.L0, Asm.NORM, 99, 0x0400FFFF, 4);
        value("NORM", Asm.L0, Asm.NORM, 99, 0xF0000FFF, 3);
    }

    private static void shiftUp() {
        check.sentence("2 SHL a moved up by b");
        value("SHL", Asm.S0, Asm.SHL, 3, 0, 3);
        value("SHL", Asm.S0, Asm.SHL, 3, 4, 48);
        value("SHL", Asm.S0, Asm.SHL, 3, 31, LEAST);
        value("SHL", Asm.S0, Asm.SHL, LEAST, 1, 0);
        value("SHL", Asm.S0, Asm.SHL, -1, 30, -1 << 30);
    }

    private static void shiftDownWithSign() {
        check.sentence("3 SHR moved down, the sign coming in");
        value("SHR", Asm.S0, Asm.SHR, -16, 0, -16);
        value("SHR", Asm.S0, Asm.SHR, -16, 2, -4);
        value("SHR", Asm.S0, Asm.SHR, -1, 31, -1);
        value("SHR", Asm.S0, Asm.SHR, LEAST, 31, -1);
        value("SHR", Asm.S0, Asm.SHR, MOST, 31, 0);
        value("SHR", Asm.S0, Asm.SHR, MOST, 30, 1);
    }

    private static void shiftDownWithZeros() {
        check.sentence("4 SHRU moved down, zeros coming in");
        value("SHRU", Asm.S0, Asm.SHRU, -16, 0, -16);
        value("SHRU", Asm.S0, Asm.SHRU, -16, 28, 15);
        value("SHRU", Asm.S0, Asm.SHRU, -1, 31, 1);
        value("SHRU", Asm.S0, Asm.SHRU, LEAST, 31, 1);
        value("SHRU", Asm.S0, Asm.SHRU, MOST, 30, 1);
    }

    private static void lowestFiveBits() {
        check.sentence("(all three by b's lowest 5 bits)");
        int[][] amounts = {{32, 0}, {33, 1}, {63, 31}, {64, 0}, {-1, 31}, {-31, 1}, {-32, 0}, {LEAST, 0}, {MOST, 31}};
        for (int[] amount : amounts) {
            value("SHL", Asm.S0, Asm.SHL, 0x40000005, amount[0], 0x40000005 << amount[1]);
            value("SHR", Asm.S0, Asm.SHR, -1000, amount[0], -1000 >> amount[1]);
            value("SHRU", Asm.S0, Asm.SHRU, -1000, amount[0], -1000 >>> amount[1]);
        }
        check.same("SHL -16", valueOf(Asm.opN(Asm.S0, Asm.SHL, 4, 3, -16), 3), 3 << 16);
        check.same("SHR -1", valueOf(Asm.opN(Asm.S0, Asm.SHR, 4, 3, -1), -2), -1);
        check.same("SHRU -1", valueOf(Asm.opN(Asm.S0, Asm.SHRU, 4, 3, -1), -2), 1);
    }

    private static void constants() {
        check.sentence("5 CONST: the number in bits 17 .. 31, two's complement");
        for (int number : new int[] {0, 1, 16383, -1, -16384, 8192, -8193, 0x1555}) {
            check.same("CONST " + number, valueOf(Asm.wide(Asm.S0, Asm.CONST, 3, number), 9), number);
            WideMachine x = new WideMachine(16, 16);
            x.word(0, Asm.wide(Asm.S1, Asm.CONST, 31, number));
            x.run(2);
            check.same("CONST " + number + " on side 1", x.get(31), number);
        }
    }

    private static void high() {
        check.sentence("6 HIGH: that number * 65536, and of register d its lowest 16 bits");
        check.same("HIGH 0", valueOf(Asm.wide(Asm.S0, Asm.HIGH, 3, 0), 0x7777FFFE), 0xFFFE);
        check.same("HIGH 1", valueOf(Asm.wide(Asm.S0, Asm.HIGH, 3, 1), 0x7777FFFE), 0x1FFFE);
        check.same("HIGH -1", valueOf(Asm.wide(Asm.S0, Asm.HIGH, 3, -1), 0x12345678), 0xFFFF5678);
        check.same("HIGH 16383", valueOf(Asm.wide(Asm.S0, Asm.HIGH, 3, 16383), -1), 0x3FFFFFFF);
        check.same("HIGH -16384", valueOf(Asm.wide(Asm.S0, Asm.HIGH, 3, -16384), 0), -1 << 30);
        check.same("HIGH of 32768", valueOf(Asm.wide(Asm.S0, Asm.HIGH, 3, 2), 0x8000), 0x28000);
    }

    private static void highOfDAsItIs() {
        check.sentence("of register d its lowest 16 bits (as it is when the packet begins)");
        WideMachine x = new WideMachine(16, 16);
        x.poke(0, 0x5555);
        x.set(4, 0x1111);
        x.word(0, Asm.wide(Asm.S1, Asm.CONST, 20, -300));
        x.word(1, Asm.wide(Asm.S1, Asm.HIGH, 20, 7));
        x.run(1);
        check.same("before: CONST", x.due(0, 1), -300);
        x.run(1);
        check.same("a write that has landed counts", x.due(0, 1), 7 << 16 | -300 & 0xFFFF);
        x.set(20, 0);
        x.run(1);
        check.same("a later set does not", x.get(20), 7 << 16 | -300 & 0xFFFF);
        x.word(8, Asm.opN(Asm.D0, Asm.LOAD, 4, 0, 0));
        x.word(9, Asm.wide(Asm.S0, Asm.HIGH, 4, 3));
        x.start(8);
        x.run(2);
        check.same("a write that is due does not", x.due(1, 1), 0x31111);
        Asm.packet(x, 12, Asm.opN(Asm.M0, Asm.MPY, 4, 4, 0), Asm.wide(Asm.S0, Asm.HIGH, 4, 3));
        x.start(12);
        x.run(1);
        check.same("a word of the same packet does not", x.due(1, 1), 0x31111);
    }

    private static void products() {
        check.sentence("0 MPY the product of the lowest 16 bits of a and of b, with signs");
        value("MPY", Asm.M0, Asm.MPY, 0x00050003, 0x0007FFFE, -6);
        value("MPY", Asm.M0, Asm.MPY, 0x8000, 0x8000, 1 << 30);
        value("MPY", Asm.M0, Asm.MPY, 0x7FFF, 0x7FFF, 32767 * 32767);
        value("MPY", Asm.M0, Asm.MPY, 0x7FFF, 0x8000, -32767 * 32768);
        value("MPY", Asm.M0, Asm.MPY, 0x8000, 0x7FFF, -32767 * 32768);
        value("MPY", Asm.M0, Asm.MPY, 0x10000, 5, 0);
    }

    private static void productsOfHighest() {
        check.sentence("1 MPYH of the highest 16 bits, with signs");
        value("MPYH", Asm.M0, Asm.MPYH, 0x0005FFFF, 0xFFFE1234, -10);
        value("MPYH", Asm.M0, Asm.MPYH, LEAST, LEAST, 1 << 30);
        value("MPYH", Asm.M0, Asm.MPYH, MOST, MOST, 32767 * 32767);
        value("MPYH", Asm.M0, Asm.MPYH, MOST, LEAST, -32767 * 32768);
        value("MPYH", Asm.M0, Asm.MPYH, 0xFFFF, 0x50000, 0);
    }

    private static void productsWithoutSigns() {
        check.sentence("2 MPYU of the lowest, without signs");
        value("MPYU", Asm.M0, Asm.MPYU, 0x00050003, 0x0007FFFE, 3 * 0xFFFE);
        value("MPYU", Asm.M0, Asm.MPYU, 0x8000, 0x8000, 1 << 30);
        value("MPYU", Asm.M0, Asm.MPYU, 1, -1, 65535);
        value("MPYU", Asm.M0, Asm.MPYU, -1, 1, 65535);
        value("MPYU", Asm.M0, Asm.MPYU, 0x10000, 5, 0);
    }

    private static void doubledProducts() {
        check.sentence("3 SMPY twice that of MPY, 2147483647 if it runs over");
        value("SMPY", Asm.M0, Asm.SMPY, 0x00050003, 0x0007FFFE, -12);
        value("SMPY", Asm.M0, Asm.SMPY, 0x8000, 0x8000, 2147483647);
        value("SMPY", Asm.M0, Asm.SMPY, 0x8000, 0x8001, 2 * 32768 * 32767);
        value("SMPY", Asm.M0, Asm.SMPY, 0x8000, 0x7FFF, -2 * 32767 * 32768);
        value("SMPY", Asm.M0, Asm.SMPY, 0x7FFF, 0x8000, -2 * 32767 * 32768);
        value("SMPY", Asm.M0, Asm.SMPY, 0x7FFF, 0x7FFF, 2 * 32767 * 32767);
    }

    private static void numbers() {
        check.sentence("bit 27: b is a number, -16 .. 15 (two's complement), not a register");
        for (int number = -16; number <= 15; number++) {
            for (int unit : new int[] {Asm.L0, Asm.S0, Asm.D0}) {
                check.same("ADD " + number, valueOf(Asm.opN(unit, Asm.ADD, 4, 3, number), 100), 100 + number);
            }
            check.same("MPY " + number, valueOf(Asm.opN(Asm.M0, Asm.MPY, 4, 3, number), 100), 100 * number);
        }
        check.same("MPYH -16", valueOf(Asm.opN(Asm.M0, Asm.MPYH, 4, 3, -16), 5 << 16), -5);
        check.same("MPYH 15", valueOf(Asm.opN(Asm.M0, Asm.MPYH, 4, 3, 15), 5 << 16), 0);
        check.same("MPYU -1", valueOf(Asm.opN(Asm.M0, Asm.MPYU, 4, 3, -1), 2), 2 * 65535);
        check.same("NORM 15", valueOf(Asm.opN(Asm.L0, Asm.NORM, 4, 0, 15), 0), 27);
        check.same("NORM -16", valueOf(Asm.opN(Asm.L0, Asm.NORM, 4, 0, -16), 0), 27);
        check.same("SADD -16", valueOf(Asm.opN(Asm.L0, Asm.SADD, 4, 3, -16), LEAST + 15), LEAST);
    }

    private static void registersOfEitherSide() {
        check.sentence("b may be a register of either");
        for (int register = 0; register < 32; register++) {
            WideMachine x = new WideMachine(16, 16);
            for (int i = 0; i < 32; i++) {
                x.set(i, 1000 + i);
            }
            x.word(0, Asm.op(Asm.L0, Asm.ADD, 0, 15, register));
            x.word(1, Asm.op(Asm.L1, Asm.ADD, 31, 16, register));
            x.run(1);
            check.same("side 0, register " + register, x.due(0, 1), 2015 + register);
            x.set(0, 1000);
            x.start(1);
            x.run(1);
            check.same("side 1, register " + register, x.due(0, 1), 2016 + register);
        }
    }

    private static void load() {
        check.sentence("2 LOAD the data word at a + b");
        for (int side = 0; side < 2; side++) {
            int base = 16 * side;
            WideMachine x = new WideMachine(32, 20);
            x.set(base + 3, 16);
            x.set(16 - base, -16);
            x.poke(0, -5);
            x.poke(19, 1234);
            x.word(0, Asm.opN(Asm.D0 + 4 * side, Asm.LOAD, base + 1, base + 3, 3));
            x.word(1, Asm.opN(Asm.D0 + 4 * side, Asm.LOAD, base + 2, base + 3, -16));
            x.word(2, Asm.op(Asm.D0 + 4 * side, Asm.LOAD, base + 4, base + 3, 16 - base));
            x.run(3);
            check.same("state", x.about(0), 0);
            check.same("the last data word", x.due(0, 1), 1234);
            check.same("the first", x.due(1, 1), -5);
            check.same("the first by two registers", x.due(2, 1), -5);
            check.same("the data word stays", x.peek(19), 1234);
        }
    }

    private static void store() {
        check.sentence("3 STORE register d into the data word at a + b");
        for (int side = 0; side < 2; side++) {
            int base = 16 * side;
            WideMachine x = new WideMachine(16, 20);
            x.set(base + 3, 16);
            x.set(base + 4, -77);
            x.set(16 - base, -16);
            x.word(0, Asm.opN(Asm.D0 + 4 * side, Asm.STORE, base + 4, base + 3, 3));
            x.word(1, Asm.op(Asm.D0 + 4 * side, Asm.STORE, base + 3, base + 3, 16 - base));
            x.run(1);
            check.same("the last data word", x.peek(19), -77);
            check.same("the one before it", x.peek(18), 0);
            x.run(1);
            check.same("the first by two registers", x.peek(0), 16);
            check.same("register d stays", x.get(base + 4), -77);
        }
    }

    private static void nothingWritten() {
        check.sentence("d is the register that is written, but for GO, BACK, WAIT, HALT, STORE");
        for (int side = 0; side < 2; side++) {
            int base = 16 * side;
            int s = Asm.S0 + 4 * side;
            int[] words = {Asm.go(s, base + 5), Asm.op(s, Asm.GO_TO_B, base + 5, base, base),
                Asm.op(s, Asm.BACK, base + 5, base, base), Asm.op(s, Asm.WAIT, base + 5, base, base),
                Asm.op(s, Asm.HALT, base + 5, base, base), Asm.op(s + 2, Asm.STORE, base + 5, base, base)};
            for (int w : words) {
                WideMachine x = new WideMachine(16, 16);
                x.word(0, w);
                x.run(1);
                check.same("writes of " + w, x.about(3), 0);
            }
        }
    }
}
