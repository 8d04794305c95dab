/** Terms, sentence by sentence: the cycle's steps but for the interrupts. */
public final class CycleTest {
    private static final Check check = new Check();

    public static void main(String[] args) {
        conditionRegisters();
        ifZeroOrNot();
        conditionsAsTheyAre();
        registersAsTheyAre();
        dataAsTheyAre();
        timesOfWrites();
        landing();
        timeOfBranches();
        branchesInARow();
        addressInTheWord();
        addressInB();
        branchThatIsNotDone();
        waitsSoMany();
        waitsByFourBits();
        moreOfTwoWaits();
        waitThatIsNotDone();
        oneCycleLess();
        writesWhileItWaits();
        branchWhileItWaits();
        storesAtLast();
        storesOfTwoSides();
        addressBehindThePacket();
        check.end();
    }

    private static WideMachine idling(int words) {
        WideMachine x = new WideMachine(words, 16);
        Asm.idles(x, 0, words);
        return x;
    }

    private static void conditionRegisters() {
        check.sentence("its CONDITION: 0 none, 1 .. 5 on register 16, 17, 18, 1, 2");
        int[] registers = {-1, 16, 17, 18, 1, 2};
        for (int condition = 0; condition <= 5; condition++) {
            for (int notZero = 0; notZero < 32; notZero++) {
                WideMachine x = new WideMachine(16, 16);
                x.set(notZero, 1);
                x.word(0, Asm.ifNotZero(condition, Asm.opN(Asm.L0, Asm.ADD, 7, 0, 1)));
                x.run(1);
                boolean isDone = condition == 0 || notZero == registers[condition];
                check.same("condition " + condition + ", register " + notZero, x.about(3), isDone ? 1 : 0);
            }
        }
    }

    private static void ifZeroOrNot() {
        check.sentence("bit 4: it is done if that register is 0 (bit set), or is not 0");
        int[] registers = {-1, 16, 17, 18, 1, 2};
        int[] values = {0, 1, -1, 2, 65536, Integer.MAX_VALUE, Integer.MIN_VALUE};
        for (int condition = 1; condition <= 5; condition++) {
            for (int value : values) {
                for (int others = 0; others < 2; others++) {
                    WideMachine x = new WideMachine(16, 16);
                    for (int r = 0; r < 32; r++) {
                        x.set(r, others);
                    }
                    x.set(registers[condition], value);
                    Asm.packet(x, 0, Asm.ifZero(condition, Asm.opN(Asm.L0, Asm.ADD, 7, 0, 1)),
                        Asm.ifNotZero(condition, Asm.opN(Asm.S0, Asm.ADD, 8, 0, 1)));
                    x.run(1);
                    String text = "condition " + condition + ", register " + value;
                    check.same(text + ": one word is done", x.about(3), 1);
                    check.same(text + ": which", x.due(0, 0), value == 0 ? 7 : 8);
                }
            }
        }
    }

    private static void conditionsAsTheyAre() {
        check.sentence("for each word whose condition is true (registers as they are now, for all words of it)");
        WideMachine x = new WideMachine(16, 16);
        Asm.packet(x, 0, Asm.opN(Asm.L0, Asm.ADD, 1, 0, 1), Asm.ifNotZero(4, Asm.opN(Asm.S0, Asm.ADD, 5, 0, 1)));
        Asm.packet(x, 2, Asm.opN(Asm.L0, Asm.ADD, 1, 0, 0), Asm.ifNotZero(4, Asm.opN(Asm.S0, Asm.ADD, 6, 0, 1)));
        Asm.packet(x, 4, Asm.ifZero(4, Asm.opN(Asm.S0, Asm.ADD, 7, 0, 1)));
        x.run(1);
        check.same("a word before it in the packet does not count", x.about(3), 1);
        x.run(1);
        check.same("what has landed in this cycle does", x.due(1, 0), 6);
        x.run(1);
        check.same("and so does a 0", x.due(0, 0), 7);
    }

    private static void registersAsTheyAre() {
        check.sentence("its value is worked out of registers and data as they are now (registers)");
        WideMachine x = new WideMachine(16, 16);
        x.set(1, 10);
        x.set(2, 20);
        Asm.packet(x, 0, Asm.opN(Asm.L0, Asm.ADD, 1, 2, 0), Asm.opN(Asm.S0, Asm.ADD, 2, 1, 0));
        x.run(1);
        check.same("nothing lands in its own cycle", x.get(1), 10);
        x.run(1);
        check.same("exchanged: 1", x.get(1), 20);
        check.same("exchanged: 2", x.get(2), 10);
        x.word(2, Asm.op(Asm.L0, Asm.ADD, 4, 1, 1));
        x.word(3, Asm.op(Asm.L0, Asm.ADD, 5, 4, 4));
        x.start(2);
        x.run(3);
        check.same("what a packet writes the next one reads", x.get(5), 80);
        x.word(8, Asm.op(Asm.M0, Asm.MPY, 6, 1, 1));
        x.word(9, Asm.opN(Asm.L0, Asm.ADD, 7, 6, 0));
        x.word(10, Asm.opN(Asm.L0, Asm.ADD, 8, 6, 0));
        x.start(8);
        x.run(4);
        check.same("a product is not there for the next packet", x.get(7), 0);
        check.same("but for the one after it", x.get(8), 400);
        x.word(12, Asm.opN(Asm.L0, Asm.ADD, 9, 1, 1));
        x.start(12);
        x.run(1);
        x.set(1, 1000);
        x.run(1);
        check.same("a set while the write is due does not count", x.get(9), 21);
    }

    private static void dataAsTheyAre() {
        check.sentence("its value is worked out of registers and data as they are now (data)");
        WideMachine x = idling(16);
        x.poke(4, 11);
        x.word(0, Asm.opN(Asm.D0, Asm.LOAD, 5, 0, 4));
        x.run(1);
        x.poke(4, 22);
        x.run(5);
        check.same("a poke while the LOAD is due does not count", x.get(5), 11);
    }

    private static void timesOfWrites() {
        check.sentence("a write is due 1 cycle later, of M 2, of LOAD 5 cycles later");
        int[] operations = {10, 7, 4, 3};
        for (int unit = 0; unit < 8; unit++) {
            int base = unit < 4 ? 0 : 16;
            for (int operation = 0; operation < operations[unit % 4]; operation++) {
                boolean isLoad = unit % 4 == 3 && operation == Asm.LOAD;
                int time = isLoad ? 5 : unit % 4 == 2 ? 2 : 1;
                WideMachine x = idling(16);
                x.set(base + 9, -1);
                x.word(0, Asm.op(unit, operation, base + 9, base + 3, base + 4));
                x.run(1);
                String text = "unit " + unit + ", operation " + operation;
                int value = x.due(0, 1);
                for (int left = time; left > 0; left--) {
                    check.same(text + ": in so many cycles", x.due(0, 2), left);
                    check.same(text + ": it has not landed", x.get(base + 9), -1);
                    x.run(1);
                }
                check.same(text + ": due no more", x.about(3), 0);
                check.same(text + ": it has landed", x.get(base + 9), value);
            }
        }
    }

    private static void landing() {
        check.sentence("(1) Writes that are due LAND in their registers (each of the 32)");
        for (int register = 0; register < 32; register++) {
            WideMachine x = idling(16);
            x.word(0, Asm.wide(register < 16 ? Asm.S0 : Asm.S1, Asm.CONST, register, 77));
            x.run(2);
            for (int other = 0; other < 32; other++) {
                check.same("register " + other, x.get(other), other == register ? 77 : 0);
            }
        }
    }

    private static void timeOfBranches() {
        check.sentence("a GO or BACK is due 6 cycles later");
        int[] branches = {Asm.go(Asm.S0, 20), Asm.go(Asm.S1, 20), Asm.goTo(Asm.S0, 30), Asm.goTo(Asm.S1, 3)};
        for (int w : branches) {
            WideMachine x = idling(32);
            x.set(30, 20);
            x.set(3, 20);
            x.word(8, w);
            x.start(8);
            x.run(1);
            // The address is that of the word's own cycle.
            x.set(30, 0);
            x.set(3, 0);
            for (int later = 1; later <= 5; later++) {
                check.same("under way before cycle " + later, x.about(4), 1);
                x.run(1);
                check.same("address after cycle " + later, x.about(1), 9 + later);
            }
            check.same("still under way", x.about(4), 1);
            x.run(1);
            check.same("the packet at the target is done", x.about(1), 21);
            check.same("under way no more", x.about(4), 0);
        }
        WideMachine x = idling(32);
        x.word(20, Asm.back(Asm.S1));
        x.start(20);
        x.run(6);
        check.same("BACK: five packets behind it", x.about(1), 26);
        x.run(1);
        check.same("BACK: then it is there", x.about(1), 1);
    }

    private static void branchesInARow() {
        check.sentence("(2) If a branch is due, the ADDRESS is its target (while more are under way)");
        WideMachine x = idling(64);
        x.word(0, Asm.go(Asm.S0, 20));
        x.word(1, Asm.go(Asm.S0, 30));
        x.word(2, Asm.go(Asm.S1, 40));
        x.run(3);
        check.same("three under way", x.about(4), 3);
        x.run(3);
        int[] addresses = {21, 31, 41, 42};
        int[] left = {2, 1, 0, 0};
        for (int i = 0; i < addresses.length; i++) {
            x.run(1);
            check.same("one packet at each target", x.about(1), addresses[i]);
            check.same("under way", x.about(4), left[i]);
        }
        check.same("state", x.about(0), 0);
    }

    private static void addressInTheWord() {
        check.sentence("7 GO to the address in bits 12 .. 31");
        for (int target : new int[] {0, 1, 7, 8, 16, 31, 64, 128, 255}) {
            WideMachine x = idling(256);
            x.word(40, Asm.go(Asm.S0, target));
            x.start(40);
            x.run(7);
            check.same("GO " + target, x.about(1), target + 1);
        }
        for (int bit = 8; bit < 20; bit++) {
            WideMachine x = idling(256);
            x.word(0, Asm.go(Asm.S1, 1 << bit));
            x.run(7);
            check.same("GO with bit " + (12 + bit), x.about(1), 1 << bit);
        }
    }

    private static void addressInB() {
        check.sentence("8 GO to the address b");
        WideMachine x = idling(256);
        for (int number = 0; number <= 15; number++) {
            x.word(40, Asm.goToN(Asm.S0, number));
            x.start(40);
            x.run(7);
            check.same("GO to the number " + number, x.about(1), number + 1);
        }
        WideMachine y = idling(256);
        for (int register = 0; register < 32; register++) {
            y.set(register, 200 + register);
            y.word(40, Asm.goTo(Asm.S1, register));
            y.start(40);
            y.run(7);
            check.same("GO to register " + register, y.about(1), 201 + register);
            y.set(register, 0);
        }
    }

    private static void branchThatIsNotDone() {
        check.sentence("for each word whose condition is true (a branch whose condition is not)");
        int[] branches = {Asm.go(Asm.S0, 20), Asm.goToN(Asm.S1, 15), Asm.back(Asm.S0)};
        for (int w : branches) {
            WideMachine x = idling(32);
            x.word(8, Asm.ifNotZero(1, w));
            x.start(8);
            x.run(8);
            check.same("it does not go", x.about(1), 16);
            x.set(16, 1);
            x.start(8);
            x.run(1);
            check.same("it is under way", x.about(4), 1);
        }
    }

    private static void waitsSoMany() {
        check.sentence("WAIT: the next b ... cycles it waits");
        for (int unit = Asm.S0; unit <= Asm.S1; unit += 4) {
            for (int cycles = 0; cycles <= 15; cycles++) {
                WideMachine x = idling(32);
                x.word(0, Asm.waitN(unit, cycles));
                x.run(1);
                check.same("WAIT " + cycles, x.about(5), cycles);
                x.run(cycles);
                check.same("WAIT " + cycles + ": no packet so long", x.about(1), 1);
                x.run(1);
                check.same("WAIT " + cycles + ": then the next", x.about(1), 2);
                check.same("WAIT " + cycles + ": all cycles count", x.about(2), cycles + 2);
            }
        }
    }

    private static void waitsByFourBits() {
        check.sentence("b (its lowest four bits; the more, of two) cycles it waits (the lowest four bits)");
        for (int number = -16; number < 0; number++) {
            WideMachine x = idling(16);
            x.word(0, Asm.waitN(Asm.S0, number));
            x.run(1);
            check.same("WAIT " + number, x.about(5), number + 16);
        }
        int[][] registers = {{15, 15}, {16, 0}, {17, 1}, {31, 15}, {0x123, 3}, {-1, 15}, {-15, 1},
            {Integer.MIN_VALUE, 0}, {Integer.MAX_VALUE, 15}};
        for (int[] pair : registers) {
            WideMachine x = idling(16);
            x.set(5, pair[0]);
            x.word(0, Asm.op(Asm.S1, Asm.WAIT, 0, 0, 5));
            x.run(1);
            check.same("WAIT by a register that is " + pair[0], x.about(5), pair[1]);
        }
    }

    private static void moreOfTwoWaits() {
        check.sentence("b (its lowest four bits; the more, of two) cycles it waits (the more)");
        int[][] pairs = {{3, 9, 9}, {9, 3, 9}, {4, 4, 4}, {0, 15, 15}, {15, 0, 15}, {0, 0, 0}, {-16, 2, 2}, {-1, 7, 15},
            {7, -1, 15}};
        for (int[] pair : pairs) {
            WideMachine x = new WideMachine(16, 16);
            Asm.packet(x, 0, Asm.waitN(Asm.S0, pair[0]), Asm.waitN(Asm.S1, pair[1]));
            x.run(1);
            check.same("WAIT " + pair[0] + " and " + pair[1], x.about(5), pair[2]);
        }
    }

    private static void waitThatIsNotDone() {
        check.sentence("for each word whose condition is true (a WAIT whose condition is not)");
        WideMachine x = new WideMachine(16, 16);
        x.word(0, Asm.ifNotZero(1, Asm.waitN(Asm.S0, 9)));
        x.run(1);
        check.same("alone", x.about(5), 0);
        Asm.packet(x, 0, Asm.waitN(Asm.S0, 3), Asm.ifNotZero(1, Asm.waitN(Asm.S1, 9)));
        x.start(0);
        x.run(1);
        check.same("the longer of two", x.about(5), 3);
    }

    private static void oneCycleLess() {
        check.sentence("(3) If the machine waits, it waits one cycle less, and that is all");
        WideMachine x = idling(32);
        x.word(0, Asm.waitN(Asm.S0, 15));
        x.word(1, Asm.opN(Asm.L0, Asm.ADD, 3, 3, 1));
        x.run(1);
        for (int left = 14; left >= 0; left--) {
            x.run(1);
            check.same("one cycle less", x.about(5), left);
            check.same("no packet", x.about(1), 1);
            check.same("no write", x.about(3), 0);
        }
        x.run(1);
        check.same("no cycle left: the packet is done", x.about(3), 1);
        check.same("it waits no more", x.about(5), 0);
    }

    private static void writesWhileItWaits() {
        check.sentence("(1) Writes that are due LAND in their registers (while it waits)");
        WideMachine x = new WideMachine(32, 16);
        x.poke(0, 7);
        Asm.packet(x, 0, Asm.waitN(Asm.S0, 15), Asm.opN(Asm.L0, Asm.ADD, 1, 0, 5),
            Asm.opN(Asm.M0, Asm.MPY, 3, 0, 5), Asm.opN(Asm.D0, Asm.LOAD, 2, 0, 0));
        x.run(2);
        check.same("ADD after one cycle", x.get(1), 5);
        check.same("two are due", x.about(3), 2);
        x.run(1);
        check.same("MPY after two", x.about(3), 1);
        x.run(2);
        check.same("LOAD not after four", x.get(2), 0);
        x.run(1);
        check.same("LOAD after five", x.get(2), 7);
    }

    private static void branchWhileItWaits() {
        check.sentence("(2) If a branch is due, the ADDRESS is its target (while it waits)");
        WideMachine x = idling(32);
        x.word(0, Asm.go(Asm.S0, 20));
        x.word(1, Asm.waitN(Asm.S0, 10));
        x.run(6);
        check.same("before it", x.about(1), 2);
        x.run(1);
        check.same("the address is the target", x.about(1), 20);
        check.same("no branch is due", x.about(4), 0);
        check.same("it waits still", x.about(5), 5);
        x.run(5);
        check.same("up to the end of it", x.about(1), 20);
        x.run(1);
        check.same("then it goes on there", x.about(1), 21);
        Asm.packet(x, 8, Asm.waitN(Asm.S0, 5), Asm.go(Asm.S1, 24));
        x.start(8);
        x.run(7);
        check.same("WAIT 5 beside a branch", x.about(1), 25);
    }

    private static void storesAtLast() {
        check.sentence("At last STOREs change the data");
        WideMachine x = new WideMachine(16, 16);
        x.poke(4, 11);
        x.set(1, 22);
        x.set(17, 4);
        Asm.packet(x, 0, Asm.opN(Asm.D0, Asm.STORE, 1, 3, 4), Asm.opN(Asm.D1, Asm.LOAD, 20, 17, 0));
        x.run(1);
        check.same("a LOAD behind it in the packet", x.due(0, 1), 11);
        check.same("the data word in the same cycle", x.peek(4), 22);
        check.same("a STORE is no write that is due", x.about(3), 1);
        x.word(2, Asm.opN(Asm.D1, Asm.LOAD, 21, 17, 0));
        x.run(1);
        check.same("a LOAD of the next packet", x.due(1, 1), 22);
        Asm.packet(x, 8, Asm.opN(Asm.L0, Asm.ADD, 1, 1, 1), Asm.opN(Asm.D0, Asm.STORE, 1, 3, 5));
        x.start(8);
        x.run(1);
        check.same("register d as it was before the packet", x.peek(5), 22);
        x.word(10, Asm.ifNotZero(5, Asm.opN(Asm.D0, Asm.STORE, 1, 3, 6)));
        x.run(1);
        check.same("a STORE whose condition is not true", x.peek(6), 0);
    }

    private static void storesOfTwoSides() {
        check.sentence("At last STOREs change the data (two of one packet)");
        WideMachine x = new WideMachine(16, 16);
        x.set(1, 100);
        x.set(17, 200);
        Asm.packet(x, 0, Asm.opN(Asm.D1, Asm.STORE, 17, 20, 4), Asm.opN(Asm.D0, Asm.STORE, 1, 3, 5));
        x.run(1);
        check.same("one of two", x.peek(4), 200);
        check.same("the other", x.peek(5), 100);
        // The document does not say which of two STOREs into one data word stays: the later word's.
        Asm.packet(x, 4, Asm.opN(Asm.D1, Asm.STORE, 17, 20, 8), Asm.opN(Asm.D0, Asm.STORE, 1, 3, 8));
        Asm.packet(x, 6, Asm.opN(Asm.D0, Asm.STORE, 1, 3, 9), Asm.opN(Asm.D1, Asm.STORE, 17, 20, 9));
        x.start(4);
        x.run(2);
        check.same("into one data word, that of side 0 later", x.peek(8), 100);
        check.same("into one data word, that of side 1 later", x.peek(9), 200);
    }

    private static void addressBehindThePacket() {
        check.sentence("(6) The address is that behind the packet");
        WideMachine x = new WideMachine(64, 16);
        int at = 0;
        for (int size = 1; size <= 8; size++) {
            for (int i = 0; i < size; i++) {
                int base = i < 4 ? 0 : 16;
                int w = Asm.ifNotZero(1, Asm.op(i, Asm.ADD, base + i, base + i, base + i));
                x.word(at + i, i + 1 < size ? Asm.and(w) : w);
            }
            x.start(at);
            x.run(1);
            check.same("a packet of " + size + " words, none of them done", x.about(1), at + size);
            at += 8;
        }
    }
}
