/** Terms: the states 1, 2, 3, 4, 7, 8, into which a packet brings the machine before it is done. */
public final class FormTest {
    private static final Check check = new Check();

    public static void main(String[] args) {
        conditions();
        operations();
        highBits();
        sides();
        units();
        crossing();
        beyondData();
        rows();
        beyondProgram();
        order();
        check.end();
    }

    /** The state after one cycle with a packet at 0; register 16 is 1, register 31 is 1000. */
    private static int stateOf(int... words) {
        WideMachine x = new WideMachine(16, 16);
        x.set(16, 1);
        x.set(31, 1000);
        Asm.packet(x, 0, words);
        check.same("run(1)", x.run(1), 1);
        check.same("cycles", x.about(2), 1);
        int state = x.about(0);
        if (state != 0 && state != 9) {
            check.same("a stopped packet: the address stays", x.about(1), 0);
            check.same("a stopped packet: no write", x.about(3), 0);
            check.same("a stopped packet: no branch", x.about(4), 0);
            check.same("a stopped packet: no wait", x.about(5), 0);
            check.same("a stopped packet: the next run", x.run(5), 0);
        }
        return state;
    }

    private static void conditions() {
        int w = Asm.op(Asm.L0, Asm.ADD, 1, 1, 1);
        for (int condition = 0; condition < 8; condition++) {
            check.same("condition " + condition, stateOf(Asm.ifNotZero(condition, w)), condition > 5 ? 2 : 0);
            check.same("condition " + condition + ", bit 4",
                stateOf(Asm.ifZero(condition, w)), condition > 5 || condition == 0 ? 2 : 0);
        }
    }

    private static void operations() {
        int[] counts = {10, 12, 4, 4};
        for (int unit = 0; unit < 8; unit++) {
            int register = unit < 4 ? 1 : 17;
            for (int operation = 0; operation < 16; operation++) {
                int state = stateOf(Asm.op(unit, operation, register, register, register));
                boolean isHalt = unit % 4 == 1 && operation == Asm.HALT;
                int due = operation >= counts[unit % 4] ? 2 : isHalt ? 9 : 0;
                check.same("unit " + unit + ", operation " + operation, state, due);
            }
        }
    }

    private static void highBits() {
        for (int bit = 28; bit < 32; bit++) {
            int high = 1 << bit;
            check.same("ADD, bit " + bit, stateOf(Asm.op(Asm.L0, Asm.ADD, 1, 1, 1) | high), 2);
            check.same("MPY, bit " + bit, stateOf(Asm.op(Asm.M0, Asm.MPY, 1, 1, 1) | high), 2);
            check.same("LOAD, bit " + bit, stateOf(Asm.op(Asm.D0, Asm.LOAD, 1, 1, 1) | high), 2);
            check.same("CONST, bit " + bit, stateOf(Asm.wide(Asm.S0, Asm.CONST, 1, 0) | high), 0);
            check.same("HIGH, bit " + bit, stateOf(Asm.wide(Asm.S0, Asm.HIGH, 1, 0) | high), 0);
            check.same("GO, bit " + bit, stateOf(Asm.go(Asm.S0, 0) | high), 0);
            check.same("GO b, bit " + bit, stateOf(Asm.goTo(Asm.S0, 0) | high), 2);
            check.same("BACK, bit " + bit, stateOf(Asm.back(Asm.S0) | high), 2);
            check.same("WAIT, bit " + bit, stateOf(Asm.idle() | high), 2);
            check.same("HALT, bit " + bit, stateOf(Asm.halt(Asm.S0) | high), 2);
        }
    }

    private static void sides() {
        for (int unit = 0; unit < 8; unit++) {
            int own = unit < 4 ? 1 : 17;
            int other = 18 - own;
            int operations = unit % 4 == 0 ? 10 : unit % 4 == 1 ? 12 : 4;
            for (int operation = 0; operation < operations; operation++) {
                boolean isS = unit % 4 == 1;
                boolean isNorm = unit % 4 == 0 && operation == Asm.NORM;
                boolean hasD = !isS || operation < Asm.GO;
                boolean hasA = !isNorm && (!isS || operation < Asm.CONST);
                int well = isS && operation == Asm.HALT ? 9 : 0;
                String text = "unit " + unit + ", operation " + operation;
                check.same(text + ", d of the other side",
                    stateOf(Asm.op(unit, operation, other, own, own)), hasD ? 2 : well);
                check.same(text + ", a of the other side",
                    stateOf(Asm.op(unit, operation, own, other, own)), hasA ? 2 : well);
                check.same(text + ", b of the other side",
                    stateOf(Asm.op(unit, operation, own, own, other)), well);
            }
        }
        check.same("d 15 on side 0", stateOf(Asm.op(Asm.L0, Asm.ADD, 15, 15, 0)), 0);
        check.same("d 16 on side 0", stateOf(Asm.op(Asm.L0, Asm.ADD, 16, 15, 0)), 2);
        check.same("a 16 on side 0", stateOf(Asm.op(Asm.L0, Asm.ADD, 15, 16, 0)), 2);
        check.same("d 15 on side 1", stateOf(Asm.op(Asm.L1, Asm.ADD, 15, 16, 0)), 2);
        check.same("d 31 on side 1", stateOf(Asm.op(Asm.L1, Asm.ADD, 31, 16, 0)), 0);
        check.same("an ill formed word that is not done",
            stateOf(Asm.ifZero(1, Asm.op(Asm.L0, Asm.ADD, 16, 1, 1))), 2);
        check.same("an ill formed last word",
            stateOf(Asm.op(Asm.L0, Asm.ADD, 1, 1, 1), Asm.op(Asm.S0, 12, 2, 1, 1)), 2);
    }

    private static void units() {
        int[] all = new int[8];
        for (int unit = 0; unit < 8; unit++) {
            int base = unit < 4 ? 0 : 16;
            all[unit] = Asm.op(unit, Asm.ADD, base + unit, base + 5, base + 6);
            int again = Asm.op(unit, Asm.SUB, base + 9, base + 5, base + 6);
            check.same("unit " + unit + " twice", stateOf(all[unit], again), 3);
            check.same("unit " + unit + " twice, one not done",
                stateOf(all[unit], Asm.ifZero(1, again)), 3);
            check.same("unit " + unit + " twice, another between",
                stateOf(all[unit], Asm.op(unit ^ 4, Asm.ADD, 25 - base, 25 - base, 25 - base), again),
                3);
        }
        check.same("all units at once", stateOf(all), 0);
    }

    private static void crossing() {
        int fromOne = Asm.op(Asm.L0, Asm.ADD, 1, 1, 17);
        int fromNull = Asm.op(Asm.L1, Asm.ADD, 17, 17, 1);
        check.same("one from each side", stateOf(fromOne, fromNull), 0);
        check.same("M and L of side 0", stateOf(fromOne, Asm.op(Asm.M0, Asm.MPY, 2, 2, 30)), 4);
        check.same("D and L of side 1", stateOf(fromNull, Asm.op(Asm.D1, Asm.ADD, 18, 18, 0)), 4);
        check.same("two of side 0, one of side 1 between",
            stateOf(fromOne, fromNull, Asm.op(Asm.M0, Asm.MPY, 2, 2, 30)), 4);
        check.same("one of two is not done",
            stateOf(fromOne, Asm.ifZero(1, Asm.op(Asm.M0, Asm.MPY, 2, 2, 30))), 4);
        check.same("a number is no register", stateOf(fromOne, Asm.opN(Asm.M0, Asm.MPY, 2, 2, -1)), 0);
        check.same("NORM has b", stateOf(Asm.op(Asm.L0, Asm.NORM, 1, 1, 17),
            Asm.op(Asm.M0, Asm.MPY, 2, 2, 30)), 4);
        check.same("STORE has b", stateOf(fromOne, Asm.op(Asm.D0, Asm.STORE, 2, 2, 30)), 4);
        check.same("LOAD has b", stateOf(fromOne, Asm.op(Asm.D0, Asm.LOAD, 2, 2, 30)), 4);
        for (int operation = 0; operation < 12; operation++) {
            boolean hasB = operation < Asm.CONST || operation == Asm.GO_TO_B || operation == Asm.WAIT;
            int well = operation == Asm.HALT ? 9 : 0;
            check.same("L and S of side 0, operation " + operation,
                stateOf(fromOne, Asm.op(Asm.S0, operation, 2, 2, 17)), hasB ? 4 : well);
            check.same("L and S of side 1, operation " + operation,
                stateOf(fromNull, Asm.op(Asm.S1, operation, 18, 18, 1)), hasB ? 4 : well);
        }
    }

    private static void beyondData() {
        for (int operation = Asm.LOAD; operation <= Asm.STORE; operation++) {
            check.same("data word 15", stateOf(Asm.opN(Asm.D0, operation, 1, 2, 15)), 0);
            check.same("data word -1", stateOf(Asm.opN(Asm.D0, operation, 1, 2, -1)), 7);
            check.same("data word 1", stateOf(Asm.op(Asm.D1, operation, 17, 16, 1)), 0);
            check.same("data word 1000", stateOf(Asm.op(Asm.D0, operation, 1, 2, 31)), 7);
            check.same("data word 1000, not done",
                stateOf(Asm.ifZero(1, Asm.op(Asm.D0, operation, 1, 2, 31))), 0);
            check.same("data word 1000, done",
                stateOf(Asm.ifNotZero(1, Asm.op(Asm.D0, operation, 1, 2, 31))), 7);
            check.same("of a later word", stateOf(Asm.op(Asm.L0, Asm.ADD, 1, 2, 3), Asm.halt(Asm.S0),
                Asm.opN(Asm.D0, operation, 1, 2, -1)), 7);
        }
        check.same("ADD in D is no data word", stateOf(Asm.opN(Asm.D0, Asm.ADD, 1, 2, -1)), 0);
        WideMachine x = new WideMachine(16, 20);
        x.set(1, Integer.MAX_VALUE);
        x.set(2, Integer.MIN_VALUE);
        x.set(3, 20);
        x.word(0, Asm.op(Asm.D0, Asm.STORE, 1, 1, 2));
        x.run(1);
        check.same("data word -1 as a sum that runs over", x.about(0), 7);
        x.set(2, Integer.MIN_VALUE + 20);
        x.start(0);
        x.run(1);
        check.same("data word 19 as a sum that runs over", x.about(0), 0);
        check.same("it is written", x.peek(19), Integer.MAX_VALUE);
        x.word(0, Asm.opN(Asm.D0, Asm.STORE, 1, 3, 0));
        x.start(0);
        x.run(1);
        check.same("data word 20 of 20", x.about(0), 7);
    }

    private static void rows() {
        WideMachine x = new WideMachine(24, 16);
        for (int i = 0; i < 8; i++) {
            int base = i < 4 ? 0 : 16;
            x.word(8 + i, Asm.and(Asm.op(i, Asm.ADD, base + i, base, base)));
        }
        x.start(8);
        x.run(1);
        check.same("eight words that go on", x.about(0), 1);
        check.same("eight words that go on: the address", x.about(1), 8);
        x.start(15);
        x.run(1);
        check.same("the last word of a row goes on", x.about(0), 1);
        for (int i = 0; i < 8; i++) {
            x.word(i, Asm.and(Asm.idle()));
        }
        x.start(0);
        x.run(1);
        check.same("all words of the first row go on", x.about(0), 1);
        x.word(15, Asm.op(Asm.D1, Asm.ADD, 23, 16, 16));
        x.start(8);
        x.run(1);
        check.same("eight words", x.about(0), 0);
        check.same("eight words: the address", x.about(1), 16);
        check.same("eight words: the writes", x.about(3), 8);
        x.start(13);
        x.run(1);
        check.same("from the middle of a packet", x.about(1), 16);
        check.same("from the middle of a packet: the writes", x.about(3), 3);
    }

    private static void beyondProgram() {
        WideMachine x = new WideMachine(20, 16);
        Asm.idles(x, 0, 20);
        x.start(19);
        check.same("up to the end", x.run(10), 2);
        check.same("behind the end: state", x.about(0), 8);
        check.same("behind the end: address", x.about(1), 20);
        x.word(19, Asm.and(Asm.idle()));
        x.start(19);
        check.same("a packet over the end", x.run(10), 1);
        check.same("a packet over the end: state", x.about(0), 8);
        check.same("a packet over the end: address", x.about(1), 19);
        target(x, Asm.go(Asm.S0, 20), 20);
        target(x, Asm.go(Asm.S0, 0xFFFFF), 0xFFFFF);
        target(x, Asm.goToN(Asm.S0, -1), -1);
        target(x, Asm.goToN(Asm.S0, -16), -16);
        x.set(5, Integer.MAX_VALUE);
        target(x, Asm.goTo(Asm.S0, 5), Integer.MAX_VALUE);
        x.set(5, Integer.MIN_VALUE);
        target(x, Asm.goTo(Asm.S1, 5), Integer.MIN_VALUE);
        x.set(5, 256);
        target(x, Asm.goTo(Asm.S1, 5), 256);
        WideMachine most = new WideMachine(256, 16);
        most.word(255, Asm.and(Asm.idle()));
        most.start(255);
        most.run(1);
        check.same("the last row of 256 words", most.about(0), 1);
        WideMachine cut = new WideMachine(23, 16);
        Asm.packet(cut, 16, Asm.idle(), 0, 0, 0, 0, 0, 0, 0);
        cut.start(16);
        cut.run(1);
        check.same("only the last word of the row is beyond the program", cut.about(0), 8);
    }

    private static void target(WideMachine x, int branch, int address) {
        x.word(0, branch);
        x.start(0);
        check.same("branch to " + address, x.run(100), 7);
        check.same("branch to " + address + ": state", x.about(0), 8);
        check.same("branch to " + address + ": address", x.about(1), address);
        check.same("branch to " + address + ": branches due", x.about(4), 0);
    }

    /** Of two things that are wrong with a packet the first in the document's order tells. */
    private static void order() {
        int far = Asm.opN(Asm.D0, Asm.LOAD, 1, 2, -1);
        int crossed = Asm.op(Asm.L0, Asm.ADD, 1, 1, 17);
        int crossedToo = Asm.op(Asm.S0, Asm.ADD, 1, 1, 17);
        int ill = Asm.op(Asm.L0, 15, 1, 1, 1);
        check.same("4 before 7", stateOf(far, crossed, crossedToo), 4);
        check.same("3 before 4", stateOf(far, crossed, crossedToo, crossedToo), 3);
        check.same("2 before 3", stateOf(far, crossed, crossedToo, crossedToo, ill), 2);
        WideMachine x = new WideMachine(20, 16);
        x.word(7, Asm.and(ill));
        x.start(7);
        x.run(1);
        check.same("1 before 2", x.about(0), 1);
        x.word(19, Asm.and(ill));
        x.start(19);
        x.run(1);
        check.same("8 before 2", x.about(0), 8);
    }
}
