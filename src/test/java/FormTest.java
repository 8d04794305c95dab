/** Terms, sentence by sentence: the word's fields, what is ill formed, the packet and its row. */
public final class FormTest {
    private static final int[] COUNTS_OF_OPERATIONS = {10, 12, 4, 4};

    private static final Check check = new Check();

    public static void main(String[] args) {
        conditionCannotBe();
        bitFourCannotBe();
        operationCannotBe();
        highBits();
        longNumbers();
        dOnTheOtherSide();
        aOnTheOtherSide();
        withoutD();
        withoutA();
        edgesOfSides();
        illFormedThoughNotDone();
        units();
        fieldsOfRegisters();
        nextWordIsDoneWithIt();
        firstWhoseBitIsNotSet();
        packetOfARow();
        lastOfARow();
        overTheRow();
        check.end();
    }

    /** The state after one cycle with a packet at 0; register 16 is 1. */
    private static int stateOf(int... words) {
        WideMachine x = new WideMachine(16, 16);
        x.set(16, 1);
        Asm.packet(x, 0, words);
        check.same("run(1)", x.run(1), 1);
        check.same("cycles", x.about(2), 1);
        if (x.about(0) == 2) {
            check.same("an ill formed word: the address stays", x.about(1), 0);
            check.same("an ill formed word: the next run", x.run(5), 0);
        }
        return x.about(0);
    }

    private static int own(int unit) {
        return unit < 4 ? 1 : 17;
    }

    private static int other(int unit) {
        return unit < 4 ? 17 : 1;
    }

    private static boolean isHalt(int unit, int operation) {
        return unit % 4 == 1 && operation == Asm.HALT;
    }

    private static boolean hasD(int unit, int operation) {
        return unit % 4 != 1 || operation < Asm.GO;
    }

    private static boolean hasA(int unit, int operation) {
        return unit % 4 == 0 ? operation != Asm.NORM : unit % 4 != 1 || operation < Asm.CONST;
    }

    private static String name(int unit, int operation) {
        return "unit " + unit + ", operation " + operation;
    }

    private static void conditionCannotBe() {
        check.sentence("condition or bit 4 or operation can't be (the condition: 0 none, 1 .. 5)");
        for (int unit = 0; unit < 8; unit++) {
            int w = Asm.op(unit, Asm.ADD, own(unit), own(unit), own(unit));
            for (int condition = 0; condition < 8; condition++) {
                int due = condition > 5 ? 2 : 0;
                check.same("condition " + condition, stateOf(Asm.ifNotZero(condition, w)), due);
            }
            check.same("condition 6, bit 4", stateOf(Asm.ifZero(6, w)), 2);
            check.same("condition 7, bit 4", stateOf(Asm.ifZero(7, w)), 2);
        }
    }

    private static void bitFourCannotBe() {
        check.sentence("with condition 0 it must not be set");
        int w = Asm.op(Asm.L0, Asm.ADD, 1, 1, 1);
        check.same("condition 0, bit 4", stateOf(Asm.ifZero(0, w)), 2);
        check.same("condition 0, bit 4 of a CONST", stateOf(Asm.ifZero(0, Asm.wide(Asm.S0, Asm.CONST, 1, 3))), 2);
        check.same("condition 0, bit 4 of a GO", stateOf(Asm.ifZero(0, Asm.go(Asm.S0, 3))), 2);
        check.same("condition 0, bit 4 of a HALT", stateOf(Asm.ifZero(0, Asm.halt(Asm.S1))), 2);
        for (int condition = 1; condition <= 5; condition++) {
            check.same("condition " + condition + ", bit 4", stateOf(Asm.ifZero(condition, w)), 0);
        }
    }

    private static void operationCannotBe() {
        check.sentence("condition or bit 4 or operation can't be (the operation)");
        for (int unit = 0; unit < 8; unit++) {
            for (int operation = 0; operation < 16; operation++) {
                int state = stateOf(Asm.op(unit, operation, own(unit), own(unit), own(unit)));
                boolean canBe = operation < COUNTS_OF_OPERATIONS[unit % 4];
                check.same(name(unit, operation), state, !canBe ? 2 : isHalt(unit, operation) ? 9 : 0);
            }
        }
    }

    private static void highBits() {
        check.sentence("A word is ILL FORMED if bits 28 .. 31 are not 0");
        for (int bit = 28; bit < 32; bit++) {
            for (int unit = 0; unit < 8; unit++) {
                for (int operation = 0; operation < COUNTS_OF_OPERATIONS[unit % 4]; operation++) {
                    boolean isLong = unit % 4 == 1 && operation >= Asm.CONST && operation <= Asm.GO;
                    if (!isLong) {
                        int w = Asm.op(unit, operation, own(unit), own(unit), own(unit)) | 1 << bit;
                        check.same(name(unit, operation) + ", bit " + bit, stateOf(w), 2);
                    }
                }
            }
        }
    }

    private static void longNumbers() {
        check.sentence("(but for CONST, HIGH and the first GO, which have their number there)");
        for (int unit = Asm.S0; unit <= Asm.S1; unit += 4) {
            for (int bit = 17; bit < 32; bit++) {
                int high = 1 << bit;
                check.same("CONST, bit " + bit, stateOf(Asm.wide(unit, Asm.CONST, own(unit), 0) | high), 0);
                check.same("HIGH, bit " + bit, stateOf(Asm.wide(unit, Asm.HIGH, own(unit), 0) | high), 0);
            }
            for (int bit = 12; bit < 32; bit++) {
                check.same("GO, bit " + bit, stateOf(Asm.go(unit, 0) | 1 << bit), 0);
            }
            check.same("CONST, all bits", stateOf(Asm.wide(unit, Asm.CONST, own(unit), -1)), 0);
            check.same("HIGH, all bits", stateOf(Asm.wide(unit, Asm.HIGH, own(unit), -1)), 0);
            check.same("GO, all bits", stateOf(Asm.go(unit, -1)), 0);
        }
    }

    private static void dOnTheOtherSide() {
        check.sentence("Register d (with STORE, too) and register a must be on the unit's side (d)");
        for (int unit = 0; unit < 8; unit++) {
            for (int operation = 0; operation < COUNTS_OF_OPERATIONS[unit % 4]; operation++) {
                if (hasD(unit, operation)) {
                    int w = Asm.op(unit, operation, other(unit), own(unit), own(unit));
                    check.same(name(unit, operation), stateOf(w), 2);
                }
            }
        }
    }

    private static void aOnTheOtherSide() {
        check.sentence("Register d (with STORE, too) and register a must be on the unit's side (a)");
        for (int unit = 0; unit < 8; unit++) {
            for (int operation = 0; operation < COUNTS_OF_OPERATIONS[unit % 4]; operation++) {
                if (hasA(unit, operation)) {
                    int w = Asm.op(unit, operation, own(unit), other(unit), own(unit));
                    check.same(name(unit, operation), stateOf(w), 2);
                }
            }
        }
    }

    private static void withoutD() {
        check.sentence("d or a (where the operation has it: d not with GO, BACK, WAIT, HALT)");
        for (int unit = Asm.S0; unit <= Asm.S1; unit += 4) {
            for (int operation = Asm.GO; operation <= Asm.HALT; operation++) {
                int due = isHalt(unit, operation) ? 9 : 0;
                for (int d = 0; d < 32; d++) {
                    int w = Asm.op(unit, operation, d, own(unit), own(unit));
                    check.same(name(unit, operation) + ", d " + d, stateOf(w), due);
                }
            }
        }
    }

    private static void withoutA() {
        check.sentence("a not with CONST, HIGH, GO, BACK, WAIT, HALT, NORM");
        for (int unit = 0; unit < 8; unit++) {
            for (int operation = 0; operation < COUNTS_OF_OPERATIONS[unit % 4]; operation++) {
                if (!hasA(unit, operation)) {
                    int w = Asm.op(unit, operation, own(unit), other(unit), own(unit));
                    check.same(name(unit, operation), stateOf(w), isHalt(unit, operation) ? 9 : 0);
                }
            }
        }
    }

    private static void edgesOfSides() {
        check.sentence("0 .. 15 are side 0, 16 .. 31 side 1");
        for (int register = 0; register < 32; register++) {
            for (int side = 0; side < 2; side++) {
                int own = 16 * side;
                int due = register >= own && register <= own + 15 ? 0 : 2;
                for (int kind = 0; kind < 4; kind++) {
                    int unit = kind + 4 * side;
                    String text = "unit " + unit + ", register " + register;
                    check.same(text + " as d", stateOf(Asm.op(unit, Asm.ADD, register, own + 1, own + 1)), due);
                    check.same(text + " as a", stateOf(Asm.op(unit, Asm.ADD, own + 1, register, own + 1)), due);
                    check.same(text + " as b", stateOf(Asm.op(unit, Asm.ADD, own + 1, own + 1, register)), 0);
                }
            }
        }
    }

    private static void illFormedThoughNotDone() {
        check.sentence("2 if a word is ill formed (whichever of the packet, be it done or not)");
        int well = Asm.op(Asm.L0, Asm.ADD, 1, 1, 1);
        int ill = Asm.op(Asm.S0, 12, 2, 1, 1);
        check.same("not done", stateOf(Asm.ifZero(1, Asm.op(Asm.L0, Asm.ADD, 16, 1, 1))), 2);
        check.same("done", stateOf(Asm.ifNotZero(1, Asm.op(Asm.L0, Asm.ADD, 16, 1, 1))), 2);
        check.same("the first", stateOf(ill, well), 2);
        check.same("the last", stateOf(well, ill), 2);
        check.same("none", stateOf(well), 0);
    }

    private static void units() {
        check.sentence("the UNIT 0 .. 7: kind L, S, M, D (0 .. 3) of side 0, the same of side 1 (4 .. 7)");
        // An operation that only one kind has tells the kind, a register that is in order the side.
        int[] operations = {Asm.NORM, Asm.SHL, Asm.MPY, Asm.ADD};
        int[] dues = {27, 9 << 9, 81, 18};
        for (int unit = 0; unit < 8; unit++) {
            int base = unit < 4 ? 0 : 16;
            WideMachine x = new WideMachine(16, 16);
            x.set(base + 2, 9);
            x.word(0, Asm.op(unit, operations[unit % 4], base + 5, base + 2, base + 2));
            x.run(1);
            check.same("unit " + unit + ": register", x.due(0, 0), base + 5);
            check.same("unit " + unit + ": value", x.due(0, 1), dues[unit % 4]);
        }
    }

    private static void fieldsOfRegisters() {
        check.sentence("bits 12 .. 16: d; bits 17 .. 21: a; bits 22 .. 26: b");
        for (int register = 0; register < 32; register++) {
            int side = register / 16;
            int one = 16 * side + 1;
            WideMachine x = new WideMachine(16, 16);
            for (int i = 0; i < 32; i++) {
                x.set(i, 1000 * i);
            }
            x.set(one, 5);
            x.set(register, 3);
            x.word(0, 4 * side << 5 | register << 12 | one << 17 | one << 22);
            x.word(1, 4 * side << 5 | one << 12 | register << 17 | 1 << 27);
            x.word(2, 4 * side << 5 | one << 12 | one << 17 | register << 22);
            x.word(3, 4 * side + 3 << 5 | 3 << 8 | register << 12 | register << 17 | 1 << 27);
            x.run(1);
            check.same("register " + register + " as d", x.due(0, 0), register);
            x.start(1);
            x.run(1);
            check.same("register " + register + " as a", x.due(0, 1), 3);
            x.start(2);
            x.run(1);
            check.same("register " + register + " as b", x.due(0, 1), register == one ? 6 : 8);
            x.start(3);
            x.run(1);
            check.same("register " + register + " as d and a of STORE", x.peek(3), 3);
        }
    }

    private static void nextWordIsDoneWithIt() {
        check.sentence("bit 0: the next word is done with it");
        WideMachine x = new WideMachine(16, 16);
        x.word(0, Asm.and(Asm.opN(Asm.L0, Asm.ADD, 1, 0, 1)));
        x.word(1, Asm.opN(Asm.S0, Asm.ADD, 2, 0, 2));
        x.word(2, Asm.opN(Asm.D0, Asm.ADD, 3, 0, 3));
        x.run(1);
        check.same("with bit 0: writes", x.about(3), 2);
        check.same("with bit 0: address", x.about(1), 2);
        x.word(0, Asm.opN(Asm.L0, Asm.ADD, 1, 0, 1));
        x.start(0);
        x.run(1);
        check.same("without: writes", x.about(3), 1);
        check.same("without: address", x.about(1), 1);
        x.word(0, Asm.and(Asm.ifNotZero(1, Asm.opN(Asm.L0, Asm.ADD, 1, 0, 1))));
        x.start(0);
        x.run(1);
        check.same("with bit 0, itself not done: writes", x.about(3), 1);
        check.same("with bit 0, itself not done: address", x.about(1), 2);
    }

    private static void firstWhoseBitIsNotSet() {
        check.sentence("A PACKET are the words from an address on, up to and with the first whose bit 0 is not set");
        for (int size = 1; size <= 8; size++) {
            WideMachine x = new WideMachine(24, 16);
            for (int i = 0; i < 8; i++) {
                int base = i < 4 ? 0 : 16;
                int w = Asm.opN(i, Asm.ADD, base + i, base + 9, 1);
                x.word(8 + i, i + 1 == size ? w : Asm.and(w));
            }
            for (int from = 0; from < size; from++) {
                x.start(8 + from);
                x.run(1);
                String text = "words " + from + " to " + size + " of a row";
                check.same(text + ": state", x.about(0), 0);
                check.same(text + ": writes", x.about(3), size - from);
                check.same(text + ": the first", x.due(0, 0), (from < 4 ? 0 : 16) + from);
                check.same(text + ": address", x.about(1), 8 + size);
            }
        }
    }

    /** Puts eight words, one for each unit, from an address on; all but the last go on. */
    private static void fullRow(WideMachine x, int from) {
        for (int i = 0; i < 8; i++) {
            int base = i < 4 ? 0 : 16;
            int w = Asm.op(i, Asm.ADD, base + i, base, base);
            x.word(from + i, i < 7 ? Asm.and(w) : w);
        }
    }

    private static void packetOfARow() {
        check.sentence("The program lies in ROWS of eight words (a packet as long as its row)");
        for (int row = 0; row < 256; row += 8) {
            WideMachine x = new WideMachine(256, 16);
            fullRow(x, row);
            x.start(row);
            check.same("row " + row + ": run", x.run(1), 1);
            check.same("row " + row + ": state", x.about(0), 0);
            check.same("row " + row + ": writes", x.about(3), 8);
            check.same("row " + row + ": address", x.about(1), row + 8);
        }
    }

    private static void lastOfARow() {
        check.sentence("a packet must end in the row in which it begins (one that is the row's last word)");
        WideMachine x = new WideMachine(24, 16);
        Asm.idles(x, 0, 24);
        for (int at = 7; at < 24; at += 8) {
            x.start(at);
            x.run(1);
            check.same("a packet of one word at " + at + ": state", x.about(0), 0);
            check.same("a packet of one word at " + at + ": address", x.about(1), at + 1);
        }
    }

    private static void overTheRow() {
        check.sentence("a packet must end in the row in which it begins (one that goes on in the next row)");
        for (int size = 2; size <= 8; size++) {
            for (int over = 1; over < size; over++) {
                WideMachine x = new WideMachine(24, 16);
                int from = 16 + over - size;
                for (int i = 0; i < size; i++) {
                    int base = i < 4 ? 0 : 16;
                    int w = Asm.opN(i, Asm.ADD, base + i, base + 9, 1);
                    x.word(from + i, i + 1 < size ? Asm.and(w) : w);
                }
                x.start(from);
                String text = size + " words from " + from + " on";
                check.same(text + ": run", x.run(3), 1);
                check.same(text + ": state", x.about(0), 1);
                check.same(text + ": writes", x.about(3), 0);
                check.same(text + ": address", x.about(1), from);
            }
        }
    }
}
