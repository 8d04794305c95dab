/** Terms, sentence by sentence: the states 1 to 9, their order, and what of a cycle is done then. */
public final class StatesTest {
    private static final Check check = new Check();

    public static void main(String[] args) {
        beyondProgram();
        withinTheRow();
        branchBeyondProgram();
        packetDoesNotEnd();
        unitTwice();
        crossedTwice();
        crossedOnce();
        withoutB();
        crossedNumbers();
        beyondData();
        beyondDataNotDone();
        halted();
        writesClash();
        writesClashNoneLands();
        writesDoNotClash();
        branchesClash();
        mostBranches();
        orderOfPacketStates();
        fiveBeforeSix();
        sixBeforePacketStates();
        packetStatesBeforeNine();
        beforeAnyWord();
        fiveNothingFollows();
        sixNothingFollows();
        whatWasDoneStays();
        noCycleIsDone();
        check.end();
    }

    private static WideMachine idling(int words) {
        WideMachine x = new WideMachine(words, 16);
        Asm.idles(x, 0, words);
        return x;
    }

    /** The state after one cycle with a packet at 0; register 16 is 1, register 31 is 1000. */
    private static int stateOf(int... words) {
        WideMachine x = new WideMachine(16, 16);
        x.set(16, 1);
        x.set(31, 1000);
        Asm.packet(x, 0, words);
        check.same("run", x.run(1), 1);
        return x.about(0);
    }

    private static void beyondProgram() {
        check.sentence("8 if a word of the packet, within the row, is beyond the program (behind its end)");
        for (int words : new int[] {16, 17, 20, 23, 24, 255, 256}) {
            WideMachine x = idling(words);
            x.start(words - 1);
            check.same("run from the last of " + words, x.run(10), 2);
            check.same("state behind " + words, x.about(0), 8);
            check.same("address behind " + words, x.about(1), words);
        }
    }

    private static void withinTheRow() {
        check.sentence("8 if a word of the packet, within the row, is beyond the program (a part of the packet)");
        for (int words = 17; words <= 24; words++) {
            WideMachine x = new WideMachine(words, 16);
            for (int at = 16; at < words; at++) {
                x.word(at, Asm.and(Asm.idle()));
            }
            for (int at = 16; at < words; at++) {
                x.start(at);
                String text = words + " words, all from " + at + " on going on";
                check.same(text + ": run", x.run(5), 1);
                // Only a row that is whole can be one in which the packet does not end.
                check.same(text + ": state", x.about(0), words == 24 ? 1 : 8);
                check.same(text + ": address", x.about(1), at);
            }
            x.word(words - 1, Asm.opN(Asm.L0, Asm.ADD, 1, 1, 1));
            x.start(words - 1);
            x.run(1);
            check.same(words + " words, the last one ends: state", x.about(0), 0);
        }
    }

    private static void branchBeyondProgram() {
        check.sentence("8 if a word of the packet, within the row, is beyond the program (where a branch goes)");
        WideMachine x = idling(20);
        target(x, Asm.go(Asm.S0, 20), 20);
        target(x, Asm.go(Asm.S0, 24), 24);
        target(x, Asm.go(Asm.S1, 0x80000), 0x80000);
        target(x, Asm.go(Asm.S0, 0xFFFFF), 0xFFFFF);
        target(x, Asm.goToN(Asm.S0, -1), -1);
        target(x, Asm.goToN(Asm.S0, -16), -16);
        for (int far : new int[] {20, 256, -8, Integer.MAX_VALUE, Integer.MAX_VALUE - 7, Integer.MIN_VALUE}) {
            x.set(5, far);
            target(x, Asm.goTo(Asm.S1, 5), far);
        }
    }

    private static void target(WideMachine x, int branch, int address) {
        x.word(0, branch);
        x.start(0);
        check.same("branch to " + address, x.run(100), 7);
        check.same("branch to " + address + ": state", x.about(0), 8);
        check.same("branch to " + address + ": address", x.about(1), address);
        check.same("branch to " + address + ": branches due", x.about(4), 0);
    }

    private static void packetDoesNotEnd() {
        check.sentence("1 if the packet does not end in its row");
        for (int row = 0; row < 24; row += 8) {
            WideMachine x = idling(24);
            for (int at = row; at < row + 8; at++) {
                x.word(at, Asm.and(Asm.idle()));
            }
            for (int at = row; at < row + 8; at++) {
                x.start(at);
                check.same("from " + at + ": run", x.run(5), 1);
                check.same("from " + at + ": state", x.about(0), 1);
                check.same("from " + at + ": address", x.about(1), at);
            }
        }
        WideMachine most = idling(256);
        most.word(255, Asm.and(Asm.idle()));
        most.start(255);
        most.run(1);
        check.same("the last word of 256: state", most.about(0), 1);
    }

    private static void unitTwice() {
        check.sentence("3 if two words have one unit");
        int[] all = new int[8];
        for (int unit = 0; unit < 8; unit++) {
            int base = unit < 4 ? 0 : 16;
            all[unit] = Asm.op(unit, Asm.ADD, base + unit, base + 5, base + 6);
            int again = Asm.op(unit, Asm.SUB, base + 9, base + 5, base + 6);
            int between = Asm.op(unit ^ 4, Asm.ADD, 25 - base, 25 - base, 25 - base);
            check.same("unit " + unit + " once", stateOf(all[unit]), 0);
            check.same("unit " + unit + " twice", stateOf(all[unit], again), 3);
            check.same("unit " + unit + " twice, one not done", stateOf(all[unit], Asm.ifZero(1, again)), 3);
            check.same("unit " + unit + " twice, another between", stateOf(all[unit], between, again), 3);
            check.same("unit " + unit + " and that of the other side", stateOf(all[unit], between), 0);
        }
        check.same("all units at once", stateOf(all), 0);
    }

    /** A word of a unit that has a register b of the other side. */
    private static int crossing(int unit) {
        int base = unit < 4 ? 0 : 16;
        return Asm.op(unit, Asm.ADD, base + 4 + unit % 4, base + 3, 19 - base);
    }

    private static void crossedTwice() {
        check.sentence("4 if, of the words of one side's units, two have a register b of the other side");
        for (int unit = 0; unit < 8; unit++) {
            for (int next = 0; next < 8; next++) {
                if (next != unit) {
                    int due = unit / 4 == next / 4 ? 4 : 0;
                    String text = "units " + unit + " and " + next;
                    check.same(text, stateOf(crossing(unit), crossing(next)), due);
                    check.same(text + ", one not done", stateOf(crossing(unit), Asm.ifZero(1, crossing(next))), due);
                }
            }
        }
        check.same("one of side 1 between", stateOf(crossing(Asm.L0), crossing(Asm.L1), crossing(Asm.D0)), 4);
        check.same("the edges of sides", stateOf(Asm.op(Asm.L0, Asm.ADD, 1, 1, 16),
            Asm.op(Asm.S0, Asm.ADD, 2, 1, 31)), 4);
        check.same("within the sides", stateOf(Asm.op(Asm.L0, Asm.ADD, 1, 1, 15),
            Asm.op(Asm.S0, Asm.ADD, 2, 1, 0)), 0);
        int norm = Asm.op(Asm.L0, Asm.NORM, 1, 1, 17);
        check.same("NORM", stateOf(norm, crossing(Asm.M0)), 4);
        check.same("LOAD", stateOf(norm, Asm.op(Asm.D0, Asm.LOAD, 2, 2, 17)), 4);
        check.same("STORE", stateOf(norm, Asm.op(Asm.D0, Asm.STORE, 2, 2, 17)), 4);
        check.same("GO b", stateOf(norm, Asm.goTo(Asm.S0, 17)), 4);
        check.same("WAIT", stateOf(norm, Asm.op(Asm.S0, Asm.WAIT, 0, 0, 17)), 4);
    }

    private static void crossedOnce() {
        check.sentence("two have a register b of the other side (one alone of each side may)");
        for (int left = 0; left < 4; left++) {
            check.same("unit " + left, stateOf(crossing(left)), 0);
            for (int right = 4; right < 8; right++) {
                check.same("units " + left + " and " + right, stateOf(crossing(left), crossing(right)), 0);
            }
        }
    }

    private static void withoutB() {
        check.sentence("(where the operation has b: not with CONST, HIGH, the first GO, BACK, HALT)");
        int[] operations = {Asm.CONST, Asm.HIGH, Asm.GO, Asm.BACK, Asm.HALT};
        for (int operation : operations) {
            int due = operation == Asm.HALT ? 9 : 0;
            check.same("side 0, operation " + operation,
                stateOf(crossing(Asm.L0), Asm.op(Asm.S0, operation, 2, 2, 17)), due);
            check.same("side 1, operation " + operation,
                stateOf(crossing(Asm.L1), Asm.op(Asm.S1, operation, 18, 18, 1)), due);
        }
    }

    private static void crossedNumbers() {
        check.sentence("two have a register b of the other side (a number is no register)");
        for (int number = -16; number <= 15; number++) {
            check.same("side 0, " + number, stateOf(crossing(Asm.L0), Asm.opN(Asm.M0, Asm.MPY, 2, 2, number)), 0);
            check.same("side 1, " + number, stateOf(crossing(Asm.L1), Asm.opN(Asm.M1, Asm.MPY, 18, 18, number)), 0);
        }
    }

    private static void beyondData() {
        check.sentence("7 if a LOAD or STORE whose condition is true goes beyond the data");
        for (int size : new int[] {16, 17, 255, 256}) {
            for (int operation = Asm.LOAD; operation <= Asm.STORE; operation++) {
                int[] in = {0, 1, size - 1};
                int[] out = {-1, size, size + 1, -size, Integer.MIN_VALUE, Integer.MAX_VALUE};
                for (int at : in) {
                    check.same("data word " + at + " of " + size, stateAt(size, operation, at), 0);
                }
                for (int at : out) {
                    check.same("data word " + at + " of " + size, stateAt(size, operation, at), 7);
                }
            }
        }
        check.same("ADD of D", stateOf(Asm.opN(Asm.D0, Asm.ADD, 1, 2, -1)), 0);
        check.same("SUB of D", stateOf(Asm.op(Asm.D0, Asm.SUB, 1, 2, 31)), 0);
    }

    private static int stateAt(int size, int operation, int at) {
        int state = -1;
        for (int side = 0; side < 2; side++) {
            WideMachine x = new WideMachine(16, size);
            int base = 16 * side;
            x.set(base + 2, at);
            x.word(0, Asm.opN(Asm.D0 + 4 * side, operation, base + 1, base + 2, 0));
            x.run(1);
            check.isTrue("both sides stop alike", side == 0 || state == x.about(0));
            state = x.about(0);
        }
        return state;
    }

    private static void beyondDataNotDone() {
        check.sentence("7 if a LOAD or STORE whose condition is true (one whose condition is not does not)");
        for (int operation = Asm.LOAD; operation <= Asm.STORE; operation++) {
            int far = Asm.op(Asm.D0, operation, 1, 2, 31);
            check.same("done as 16 is not 0", stateOf(Asm.ifNotZero(1, far)), 7);
            check.same("not done as 16 is not 0", stateOf(Asm.ifZero(1, far)), 0);
            check.same("done as 17 is 0", stateOf(Asm.ifZero(2, far)), 7);
            check.same("not done as 17 is 0", stateOf(Asm.ifNotZero(2, far)), 0);
        }
    }

    private static void halted() {
        check.sentence("HALT: the machine halts after this cycle ... at the end 9 if it halted");
        WideMachine x = new WideMachine(32, 16);
        x.set(1, 50);
        Asm.packet(x, 8, Asm.halt(Asm.S0), Asm.opN(Asm.L0, Asm.ADD, 2, 1, 1),
            Asm.opN(Asm.D0, Asm.STORE, 1, 3, 2), Asm.waitN(Asm.S1, 6));
        x.start(8);
        check.same("run", x.run(10), 1);
        check.same("state", x.about(0), 9);
        check.same("the address is that behind the packet", x.about(1), 12);
        check.same("a write of its packet is due", x.due(0, 1), 51);
        check.same("a STORE of its packet is done", x.peek(2), 50);
        check.same("a WAIT behind it in its packet is done", x.about(5), 6);
        Asm.packet(x, 14, Asm.waitN(Asm.S0, 7), Asm.halt(Asm.S1));
        x.start(14);
        x.run(1);
        check.same("a WAIT before it in its packet is done", x.about(5), 7);
        check.same("a WAIT before it in its packet: state", x.about(0), 9);
        Asm.packet(x, 16, Asm.go(Asm.S0, 3), Asm.halt(Asm.S1));
        x.start(16);
        x.run(1);
        check.same("a branch of its packet is due", x.about(4), 1);
        check.same("HALT of S1", x.about(0), 9);
        Asm.packet(x, 20, Asm.halt(Asm.S0), Asm.back(Asm.S1));
        x.start(20);
        x.run(1);
        check.same("a BACK of its packet lets in", x.about(7), 1);
        x.word(24, Asm.ifNotZero(1, Asm.halt(Asm.S0)));
        x.start(24);
        check.same("a HALT that is not done", x.run(3), 3);
        x.word(25, Asm.opN(Asm.S0, Asm.HALT, 31, 31, 9));
        x.start(25);
        x.run(1);
        check.same("HALT has no b: it does not wait", x.about(5), 0);
        x.word(31, Asm.halt(Asm.S0));
        x.start(31);
        x.run(5);
        check.same("HALT as the program's last word: state", x.about(0), 9);
        check.same("HALT as the program's last word: address", x.about(1), 32);
    }

    private static void writesClash() {
        check.sentence("5 if two writes land in one register");
        clash("L and S of one packet", 2, Asm.opN(Asm.L0, Asm.ADD, 4, 3, 0) | 1, Asm.opN(Asm.S0, Asm.ADD, 4, 3, 0));
        clash("L and D of side 1", 2, Asm.opN(Asm.L1, Asm.ADD, 31, 19, 0) | 1, Asm.opN(Asm.D1, Asm.ADD, 31, 19, 0));
        clash("another between them", 2, Asm.opN(Asm.L0, Asm.ADD, 4, 3, 0) | 1,
            Asm.opN(Asm.S0, Asm.ADD, 5, 3, 0) | 1, Asm.opN(Asm.D0, Asm.ADD, 4, 3, 0));
        clash("M and the next L", 3, Asm.op(Asm.M0, Asm.MPY, 0, 3, 3), Asm.opN(Asm.L0, Asm.ADD, 0, 3, 0));
        clash("LOAD and the fourth L behind it", 6, Asm.opN(Asm.D0, Asm.LOAD, 4, 9, 0), Asm.idle(), Asm.idle(),
            Asm.idle(), Asm.opN(Asm.L0, Asm.ADD, 4, 3, 0));
        clash("LOAD and the third M behind it", 6, Asm.opN(Asm.D0, Asm.LOAD, 4, 9, 0), Asm.idle(), Asm.idle(),
            Asm.op(Asm.M0, Asm.MPY, 4, 3, 3));
        clash("equal values", 2, Asm.opN(Asm.L0, Asm.ADD, 4, 4, 0) | 1, Asm.opN(Asm.S0, Asm.ADD, 4, 4, 0));
    }

    private static void clash(String text, int cycles, int... words) {
        WideMachine x = idling(16);
        Asm.packets(x, 0, words);
        check.same(text + ": run", x.run(100), cycles);
        check.same(text + ": state", x.about(0), 5);
    }

    private static void writesClashNoneLands() {
        check.sentence("(none lands then)");
        WideMachine x = new WideMachine(16, 16);
        x.set(3, 3);
        x.set(1, -9);
        x.word(0, Asm.opN(Asm.D0, Asm.LOAD, 9, 4, 0));
        x.word(1, Asm.op(Asm.M0, Asm.MPY, 1, 3, 3));
        Asm.packet(x, 2, Asm.opN(Asm.L0, Asm.ADD, 1, 3, 0), Asm.opN(Asm.S0, Asm.ADD, 2, 3, 1),
            Asm.opN(Asm.L1, Asm.ADD, 16, 17, 1));
        check.same("run", x.run(100), 4);
        check.same("the register of both", x.get(1), -9);
        check.same("another one of its side", x.get(2), 0);
        check.same("one of the other side", x.get(16), 0);
        check.same("writes", x.about(3), 5);
        int[][] due = {{9, 0, 2}, {1, 9, 0}, {1, 3, 0}, {2, 4, 0}, {16, 1, 0}};
        for (int i = 0; i < due.length; i++) {
            for (int what = 0; what < 3; what++) {
                check.same("due(" + i + ", " + what + ")", x.due(i, what), due[i][what]);
            }
        }
    }

    private static void writesDoNotClash() {
        check.sentence("5 if two writes land in one register (not if they land in two cycles, or one is not done)");
        WideMachine x = idling(16);
        x.set(3, 3);
        x.word(0, Asm.op(Asm.M0, Asm.MPY, 1, 3, 3));
        x.word(2, Asm.opN(Asm.L0, Asm.ADD, 1, 3, 1));
        check.same("one after the other", x.run(3), 3);
        check.same("one after the other: the first", x.get(1), 9);
        x.run(1);
        check.same("one after the other: the second", x.get(1), 4);
        Asm.packet(x, 4, Asm.ifZero(4, Asm.opN(Asm.L0, Asm.ADD, 5, 3, 1)),
            Asm.ifNotZero(4, Asm.opN(Asm.S0, Asm.ADD, 5, 3, 2)));
        x.run(2);
        check.same("one of two is done: state", x.about(0), 0);
        check.same("one of two is done", x.get(5), 5);
        x.poke(0, 70);
        x.word(8, Asm.opN(Asm.D0, Asm.LOAD, 6, 0, 0));
        x.word(9, Asm.opN(Asm.L0, Asm.ADD, 6, 0, 1));
        x.start(8);
        x.run(3);
        check.same("an ADD behind a LOAD landed", x.get(6), 1);
        x.run(3);
        check.same("the LOAD landed after it", x.get(6), 70);
        Asm.packet(x, 8, Asm.opN(Asm.L0, Asm.ADD, 6, 0, 1), Asm.opN(Asm.M0, Asm.MPY, 6, 0, 1));
        x.start(8);
        check.same("ADD and MPY of one packet", x.run(3), 3);
    }

    private static void branchesClash() {
        check.sentence("6 if two branches are due");
        int[][] pairs = {{Asm.go(Asm.S0, 20), Asm.goToN(Asm.S1, 12)}, {Asm.go(Asm.S0, 20), Asm.go(Asm.S1, 20)},
            {Asm.back(Asm.S0), Asm.back(Asm.S1)}, {Asm.go(Asm.S1, 20), Asm.back(Asm.S0)}};
        for (int[] pair : pairs) {
            WideMachine x = idling(32);
            Asm.packet(x, 0, pair);
            check.same("run", x.run(100), 7);
            check.same("state", x.about(0), 6);
            check.same("both stay", x.about(4), 2);
            check.same("the address stays", x.about(1), 7);
            x.start(0);
            x.word(0, Asm.and(Asm.ifNotZero(1, pair[0])));
            check.same("one of them is not done", x.run(8), 8);
        }
    }

    private static void mostBranches() {
        check.sentence("6 if two branches are due (with as many more under way as can be)");
        WideMachine x = new WideMachine(32, 16);
        for (int i = 0; i < 12; i += 2) {
            Asm.packet(x, i, Asm.go(Asm.S0, 20), Asm.go(Asm.S1, 20));
            x.run(1);
            check.same("two branches of each packet", x.about(4), i + 2);
        }
        check.same("the first of them are due", x.run(5), 1);
        check.same("the first of them are due: state", x.about(0), 6);
        check.same("all stay", x.about(4), 12);
    }

    /** A packet that is wrong in a state's way and in that of each state that is looked at later. */
    private static int[] wrongIn(int state) {
        int far = Asm.opN(Asm.D0, Asm.LOAD, 1, 2, -1);
        int crossed = Asm.op(Asm.L0, Asm.ADD, 1, 1, 17);
        int crossedToo = Asm.op(Asm.M0, Asm.MPY, 1, 1, 17);
        int again = Asm.opN(Asm.D0, Asm.ADD, 1, 1, 1);
        int ill = Asm.op(Asm.M1, 15, 17, 17, 17);
        int halt = Asm.halt(Asm.S0);
        switch (state) {
            case 9: return new int[] {halt};
            case 7: return new int[] {halt, far};
            case 4: return new int[] {halt, far, crossed, crossedToo};
            case 3: return new int[] {halt, far, crossed, crossedToo, again};
            case 2: return new int[] {halt, far, crossed, crossedToo, again, ill};
            case 1: return new int[] {halt, far, crossed, crossedToo, again, ill, ill, ill | 1};
            default: return new int[] {halt, far, crossed | 1};
        }
    }

    private static void orderOfPacketStates() {
        check.sentence("in this order ... 8 ... 1 ... 2 ... 3 ... 4 ... 7 ... at the end 9");
        int[] states = {1, 2, 3, 4, 7, 9};
        for (int state : states) {
            check.same("state " + state + " before all that follow", stateOf(wrongIn(state)), state);
        }
        WideMachine x = new WideMachine(19, 16);
        Asm.packet(x, 16, wrongIn(8));
        x.start(16);
        x.run(1);
        check.same("state 8 before all that follow", x.about(0), 8);
        Asm.packet(x, 16, Asm.op(Asm.M1, 15, 17, 17, 17), Asm.halt(Asm.S0), Asm.halt(Asm.S0) | 1);
        x.start(16);
        x.run(1);
        check.same("state 8 before 2 and 3", x.about(0), 8);
    }

    private static void fiveBeforeSix() {
        check.sentence("in this order ... in (1) 5 ... in (2) 6");
        WideMachine x = idling(32);
        Asm.packet(x, 0, Asm.go(Asm.S0, 20), Asm.go(Asm.S1, 24));
        Asm.packet(x, 6, Asm.opN(Asm.L0, Asm.ADD, 5, 5, 1), Asm.opN(Asm.D0, Asm.ADD, 5, 5, 2));
        check.same("run", x.run(100), 7);
        check.same("state", x.about(0), 5);
        check.same("both branches are due still", x.about(4), 2);
        check.same("address", x.about(1), 8);
    }

    private static void sixBeforePacketStates() {
        check.sentence("in (2) 6 if two branches are due; in (5) ...");
        for (int state : new int[] {2, 3, 4, 7, 9}) {
            WideMachine x = idling(32);
            Asm.packet(x, 0, Asm.go(Asm.S0, 20), Asm.go(Asm.S1, 20));
            Asm.packet(x, 6, Asm.idle(), Asm.op(Asm.L0, Asm.ADD, 9, 9, 9));
            Asm.packet(x, 8, wrongIn(state));
            Asm.packet(x, 20, wrongIn(state));
            check.same("before " + state + ": run", x.run(100), 7);
            check.same("before " + state + ": state", x.about(0), 6);
        }
    }

    private static void packetStatesBeforeNine() {
        check.sentence("at the end 9 if it halted (not if the packet of the HALT is not done)");
        for (int state : new int[] {1, 2, 3, 4, 7}) {
            WideMachine x = new WideMachine(16, 16);
            Asm.packet(x, 0, wrongIn(state));
            x.run(1);
            check.same("a HALT in a packet of state " + state, x.about(0), state);
            x.word(0, Asm.idle());
            x.start(0);
            check.same("it does not halt later", x.run(1), 1);
            check.same("state", x.about(0), 0);
        }
    }

    private static void beforeAnyWord() {
        check.sentence("all looked at before any word of the packet does anything");
        int add = Asm.opN(Asm.L0, Asm.ADD, 1, 1, 1);
        int store = Asm.opN(Asm.D0, Asm.STORE, 4, 2, 3);
        int back = Asm.back(Asm.S0);
        int waits = Asm.waitN(Asm.S1, 5);
        nothingDone(2, 32, add, store, back, waits, Asm.op(Asm.M1, 15, 17, 17, 17));
        nothingDone(3, 32, add, store, back, waits, Asm.opN(Asm.L0, Asm.SUB, 2, 2, 2));
        nothingDone(4, 32, Asm.op(Asm.L0, Asm.ADD, 1, 1, 17), store, back, waits, Asm.op(Asm.M0, Asm.MPY, 2, 2, 17));
        nothingDone(7, 32, add, store, back, waits, Asm.opN(Asm.D1, Asm.LOAD, 20, 20, -1));
        nothingDone(7, 32, add, store, back, waits, Asm.opN(Asm.D1, Asm.STORE, 20, 20, -1));
        nothingDone(7, 32, add, store, Asm.halt(Asm.S0), waits, Asm.opN(Asm.D1, Asm.STORE, 20, 20, -1));
        nothingDone(1, 32, add, store, back, waits, 0, 0, 0, 1);
        nothingDone(8, 21, add, store, back, waits, Asm.opN(Asm.M0, Asm.MPY, 2, 2, 2) | 1);
    }

    private static void nothingDone(int state, int words, int... packet) {
        WideMachine x = new WideMachine(words, 16);
        x.set(4, 44);
        Asm.packet(x, 16, packet);
        x.start(16);
        String text = "state " + state;
        check.same(text + ": run", x.run(5), 1);
        int[] due = {state, 16, 1, 0, 0, 0, 0, 0, 0};
        for (int what = 0; what < due.length; what++) {
            check.same(text + ": about(" + what + ")", x.about(what), due[what]);
        }
        check.same(text + ": no STORE", x.peek(3), 0);
    }

    private static void fiveNothingFollows() {
        check.sentence("nothing of what follows in the cycle is done (behind 5)");
        WideMachine x = idling(64);
        x.word(0, Asm.go(Asm.S0, 40));
        Asm.packet(x, 5, Asm.opN(Asm.L0, Asm.ADD, 5, 5, 1), Asm.opN(Asm.D0, Asm.ADD, 5, 5, 2));
        x.word(40, Asm.halt(Asm.S0));
        x.run(6);
        x.raise(0);
        x.letIn(true);
        check.same("run", x.run(9), 1);
        int[] due = {5, 7, 7, 2, 1, 0, 0, 1, 1};
        for (int what = 0; what < due.length; what++) {
            check.same("about(" + what + ")", x.about(what), due[what]);
        }
        Asm.packet(x, 16, Asm.waitN(Asm.S0, 15), Asm.opN(Asm.L0, Asm.ADD, 1, 0, 5),
            Asm.opN(Asm.D0, Asm.ADD, 1, 0, 6));
        x.start(16);
        x.letIn(false);
        check.same("while it waits: run", x.run(9), 2);
        check.same("while it waits: state", x.about(0), 5);
        check.same("while it waits: it waits no less", x.about(5), 15);
    }

    private static void sixNothingFollows() {
        check.sentence("nothing of what follows in the cycle is done (what was done before stays) (behind 6)");
        WideMachine x = idling(64);
        Asm.packet(x, 0, Asm.go(Asm.S0, 40), Asm.go(Asm.S1, 40));
        x.word(2, Asm.go(Asm.S0, 48));
        x.word(6, Asm.opN(Asm.L0, Asm.ADD, 5, 5, 6));
        x.word(7, Asm.opN(Asm.L0, Asm.ADD, 6, 5, 6));
        x.run(6);
        x.raise(0);
        x.letIn(true);
        check.same("run", x.run(9), 1);
        int[] due = {6, 7, 7, 0, 3, 0, 0, 1, 1};
        for (int what = 0; what < due.length; what++) {
            check.same("about(" + what + ")", x.about(what), due[what]);
        }
        check.same("the write before has landed", x.get(5), 6);
        Asm.packet(x, 16, Asm.go(Asm.S0, 3), Asm.go(Asm.S1, 3));
        x.word(18, Asm.waitN(Asm.S0, 15));
        x.start(16);
        x.letIn(false);
        check.same("while it waits: run", x.run(9), 7);
        check.same("while it waits: state", x.about(0), 6);
        check.same("while it waits: it waits no less", x.about(5), 11);
    }

    private static void whatWasDoneStays() {
        check.sentence("(what was done before stays) (behind a packet's state)");
        for (int state : new int[] {1, 2, 3, 4, 7}) {
            WideMachine x = idling(64);
            x.word(0, Asm.go(Asm.S0, 40));
            x.word(5, Asm.opN(Asm.L0, Asm.ADD, 5, 5, 6));
            Asm.packet(x, 16, wrongIn(state));
            x.raise(1);
            x.raise(3);
            x.run(6);
            x.letIn(true);
            check.same("state " + state + ": run", x.run(9), 1);
            int[] due = {state, 16, 7, 0, 0, 0, 40, 0, 8};
            for (int what = 0; what < due.length; what++) {
                check.same("state " + state + ": about(" + what + ")", x.about(what), due[what]);
            }
            check.same("state " + state + ": the write has landed", x.get(5), 6);
        }
    }

    private static void noCycleIsDone() {
        check.sentence("In another state than 0 no cycle is done");
        for (int state = 1; state <= 9; state++) {
            WideMachine x = idling(20);
            stop(x, state);
            check.same("state " + state + ": state", x.about(0), state);
            int cycles = x.about(2);
            int address = x.about(1);
            int writes = x.about(3);
            check.same("state " + state + ": run(1)", x.run(1), 0);
            check.same("state " + state + ": run(2000)", x.run(2000), 0);
            check.same("state " + state + ": cycles", x.about(2), cycles);
            check.same("state " + state + ": address", x.about(1), address);
            check.same("state " + state + ": writes", x.about(3), writes);
            check.same("state " + state + ": state stays", x.about(0), state);
        }
    }

    private static void stop(WideMachine x, int state) {
        switch (state) {
            case 5:
                Asm.packet(x, 0, Asm.opN(Asm.L0, Asm.ADD, 5, 5, 1), Asm.opN(Asm.D0, Asm.ADD, 5, 5, 2));
                break;
            case 6:
                Asm.packet(x, 0, Asm.go(Asm.S0, 3), Asm.go(Asm.S1, 3));
                break;
            case 8:
                break;
            default:
                Asm.packet(x, 0, wrongIn(state));
                break;
        }
        x.run(100);
    }
}
