/** Terms: the order of a cycle, conditions, branches, waits, halting, and the states 5, 6 and 9. */
public final class CycleTest {
    private static final Check check = new Check();

    public static void main(String[] args) {
        conditions();
        registersAsTheyAre();
        dataAsTheyAre();
        twoStores();
        writesClash();
        writesDoNotClash();
        branch();
        branchesClash();
        branchesInARow();
        waiting();
        longerOfTwoWaits();
        branchWhileWaiting();
        writesWhileWaiting();
        halting();
        check.end();
    }

    private static void conditions() {
        int[] registers = {0, 16, 17, 18, 1, 2};
        int[] values = {0, 1, -1, Integer.MIN_VALUE};
        for (int condition = 1; condition <= 5; condition++) {
            for (int value : values) {
                for (int others = 0; others < 2; others++) {
                    WideMachine x = new WideMachine(16, 16);
                    for (int r = 0; r < 32; r++) {
                        x.set(r, others);
                    }
                    x.set(registers[condition], value);
                    Asm.packet(x, 0, Asm.ifZero(condition, Asm.opN(Asm.L0, Asm.ADD, 7, 0, 1)),
                        Asm.ifNotZero(condition, Asm.opN(Asm.S0, Asm.ADD, 8, 0, 1)));
                    x.run(1);
                    String text = "condition " + condition + ", register " + value;
                    check.same(text + ": one word is done", x.about(3), 1);
                    check.same(text + ": which", x.due(0, 0), value == 0 ? 7 : 8);
                }
            }
        }
    }

    private static void registersAsTheyAre() {
        WideMachine x = new WideMachine(16, 16);
        x.set(1, 10);
        x.set(2, 20);
        Asm.packet(x, 0, Asm.opN(Asm.L0, Asm.ADD, 1, 2, 0), Asm.opN(Asm.S0, Asm.ADD, 2, 1, 0),
            Asm.ifNotZero(4, Asm.opN(Asm.D0, Asm.ADD, 3, 1, 0)));
        x.run(1);
        check.same("nothing lands in its own cycle", x.get(1), 10);
        x.run(1);
        check.same("exchanged 1", x.get(1), 20);
        check.same("exchanged 2", x.get(2), 10);
        check.same("register 1 as it was", x.get(3), 10);
        x.word(2, Asm.op(Asm.L0, Asm.ADD, 4, 1, 1));
        x.word(3, Asm.op(Asm.L0, Asm.ADD, 5, 4, 4));
        x.start(2);
        x.run(3);
        check.same("what a packet writes the next one reads", x.get(5), 80);
    }

    private static void dataAsTheyAre() {
        WideMachine x = new WideMachine(16, 16);
        x.poke(4, 11);
        x.set(1, 22);
        x.set(17, 4);
        Asm.packet(x, 0, Asm.opN(Asm.D0, Asm.STORE, 1, 3, 4), Asm.opN(Asm.D1, Asm.LOAD, 20, 17, 0));
        x.run(1);
        check.same("a LOAD beside a STORE", x.due(0, 1), 11);
        check.same("the STORE", x.peek(4), 22);
        x.word(2, Asm.opN(Asm.D1, Asm.LOAD, 21, 17, 0));
        x.run(1);
        check.same("a LOAD after the STORE", x.due(1, 1), 22);
    }

    private static void twoStores() {
        WideMachine x = new WideMachine(16, 16);
        x.set(1, 100);
        x.set(17, 200);
        Asm.packet(x, 0, Asm.opN(Asm.D1, Asm.STORE, 17, 20, 4), Asm.opN(Asm.D0, Asm.STORE, 1, 3, 5));
        x.run(1);
        check.same("one STORE of two", x.peek(4), 200);
        check.same("the other", x.peek(5), 100);
        Asm.packet(x, 2, Asm.opN(Asm.D1, Asm.STORE, 17, 20, 6),
            Asm.ifZero(5, Asm.opN(Asm.D0, Asm.STORE, 1, 3, 7)));
        x.set(2, 1);
        x.run(1);
        check.same("a STORE that is done", x.peek(6), 200);
        check.same("a STORE that is not done", x.peek(7), 0);
        // The document does not say which of two STOREs into one data word stays: the later word's.
        Asm.packet(x, 4, Asm.opN(Asm.D1, Asm.STORE, 17, 20, 8), Asm.opN(Asm.D0, Asm.STORE, 1, 3, 8));
        Asm.packet(x, 6, Asm.opN(Asm.D0, Asm.STORE, 1, 3, 9), Asm.opN(Asm.D1, Asm.STORE, 17, 20, 9));
        x.run(2);
        check.same("two STOREs into one data word, that of side 0 later", x.peek(8), 100);
        check.same("two STOREs into one data word, that of side 1 later", x.peek(9), 200);
    }

    private static void writesClash() {
        WideMachine x = new WideMachine(16, 16);
        x.set(3, 3);
        x.set(1, -9);
        x.set(16, 1);
        x.word(0, Asm.opN(Asm.D0, Asm.LOAD, 9, 4, 0));
        x.word(1, Asm.op(Asm.M0, Asm.MPY, 1, 3, 3));
        Asm.packet(x, 2, Asm.opN(Asm.L0, Asm.ADD, 1, 3, 0), Asm.opN(Asm.S0, Asm.ADD, 2, 3, 1),
            Asm.go(Asm.S1, 0));
        check.same("clash: run", x.run(100), 4);
        check.same("clash: state", x.about(0), 5);
        check.same("clash: cycles", x.about(2), 4);
        check.same("clash: address", x.about(1), 5);
        check.same("clash: nothing landed in 1", x.get(1), -9);
        check.same("clash: nothing landed in 2", x.get(2), 0);
        check.same("clash: writes", x.about(3), 4);
        check.same("clash: branches", x.about(4), 1);
        int[][] due = {{9, 0, 2}, {1, 9, 0}, {1, 3, 0}, {2, 4, 0}};
        for (int i = 0; i < due.length; i++) {
            for (int what = 0; what < 3; what++) {
                check.same("clash: due(" + i + ", " + what + ")", x.due(i, what), due[i][what]);
            }
        }
        check.same("clash: no cycle more", x.run(1), 0);
        check.same("clash: cycles stay", x.about(2), 4);
        onePacket();
    }

    private static void onePacket() {
        WideMachine x = new WideMachine(16, 16);
        Asm.packet(x, 0, Asm.opN(Asm.L1, Asm.ADD, 31, 16, 1), Asm.opN(Asm.S1, Asm.ADD, 31, 16, 1));
        x.word(2, Asm.opN(Asm.D0, Asm.STORE, 1, 1, 0));
        x.set(1, 4);
        check.same("two writes of one packet: run", x.run(9), 2);
        check.same("two writes of one packet: state", x.about(0), 5);
        check.same("two writes of one packet: the next packet is not done", x.peek(4), 0);
        check.same("two writes of one packet: address", x.about(1), 2);
        Asm.packet(x, 8, Asm.opN(Asm.L1, Asm.ADD, 31, 16, 1), Asm.opN(Asm.S0, Asm.ADD, 2, 1, 1),
            Asm.opN(Asm.S1, Asm.ADD, 31, 16, 1));
        x.start(8);
        x.run(2);
        check.same("two writes of one packet, another between", x.about(0), 5);
        check.same("the one between did not land", x.get(2), 0);
    }

    private static void writesDoNotClash() {
        WideMachine x = new WideMachine(16, 16);
        x.set(3, 3);
        x.word(0, Asm.op(Asm.M0, Asm.MPY, 1, 3, 3));
        x.word(1, Asm.idle());
        x.word(2, Asm.opN(Asm.L0, Asm.ADD, 1, 3, 1));
        x.word(3, Asm.idle());
        check.same("one after the other", x.run(3), 3);
        check.same("one after the other: the first", x.get(1), 9);
        x.run(1);
        check.same("one after the other: the second", x.get(1), 4);
        Asm.packet(x, 4, Asm.ifZero(4, Asm.opN(Asm.L0, Asm.ADD, 5, 3, 1)),
            Asm.ifNotZero(4, Asm.opN(Asm.S0, Asm.ADD, 5, 3, 2)));
        x.run(2);
        check.same("one of two is done: state", x.about(0), 0);
        check.same("one of two is done", x.get(5), 5);
        // An earlier LOAD lands after a later ADD into the same register.
        x.poke(0, 70);
        x.word(8, Asm.opN(Asm.D0, Asm.LOAD, 6, 0, 0));
        x.word(9, Asm.opN(Asm.L0, Asm.ADD, 6, 0, 1));
        Asm.idles(x, 10, 16);
        x.start(8);
        x.run(3);
        check.same("the ADD landed", x.get(6), 1);
        x.run(3);
        check.same("the LOAD landed after it", x.get(6), 70);
    }

    private static void branch() {
        int[] branches = {Asm.go(Asm.S0, 20), Asm.go(Asm.S1, 20), Asm.goTo(Asm.S0, 30), Asm.goTo(Asm.S1, 3)};
        for (int w : branches) {
            WideMachine x = new WideMachine(32, 16);
            Asm.idles(x, 0, 32);
            x.set(30, 20);
            x.set(3, 20);
            x.letIn(false);
            x.word(0, w);
            x.run(1);
            x.set(30, 0);
            x.set(3, 0);
            check.same("a branch is under way", x.about(4), 1);
            check.same("a branch lets no interrupt in", x.about(7), 0);
            check.same("five more packets", x.run(5), 5);
            check.same("after five more packets", x.about(1), 6);
            check.same("still under way", x.about(4), 1);
            x.run(1);
            check.same("the packet at the target is done", x.about(1), 21);
            check.same("under way no more", x.about(4), 0);
        }
        WideMachine x = new WideMachine(32, 16);
        Asm.idles(x, 0, 32);
        x.word(0, Asm.goToN(Asm.S0, 15));
        x.word(8, Asm.ifNotZero(1, Asm.go(Asm.S0, 20)));
        x.run(7);
        check.same("a branch to a number", x.about(1), 16);
        x.start(8);
        x.run(8);
        check.same("a branch that is not done", x.about(1), 16);
    }

    private static void branchesClash() {
        WideMachine x = new WideMachine(32, 16);
        Asm.idles(x, 0, 32);
        Asm.packet(x, 0, Asm.go(Asm.S0, 20), Asm.goToN(Asm.S1, 12));
        x.word(2, Asm.go(Asm.S0, 24));
        x.word(6, Asm.opN(Asm.L0, Asm.ADD, 5, 5, 6));
        check.same("two branches: run", x.run(100), 7);
        check.same("two branches: state", x.about(0), 6);
        check.same("two branches: they stay, and the third", x.about(4), 3);
        check.same("two branches: address", x.about(1), 7);
        check.same("two branches: cycles", x.about(2), 7);
        check.same("two branches: the writes have landed", x.get(5), 6);
        check.same("two branches: no write is due", x.about(3), 0);
        Asm.packet(x, 0, Asm.go(Asm.S0, 20), Asm.go(Asm.S1, 20));
        x.start(0);
        x.run(100);
        check.same("two branches to one address", x.about(0), 6);
        mostBranches();
    }

    private static void mostBranches() {
        WideMachine x = new WideMachine(32, 16);
        for (int i = 0; i < 12; i += 2) {
            Asm.packet(x, i, Asm.go(Asm.S0, 20), Asm.go(Asm.S1, 20));
            x.run(1);
            check.same("two branches of each packet", x.about(4), i + 2);
        }
        check.same("the first of them are due", x.run(5), 1);
        check.same("the first of them are due: state", x.about(0), 6);
        check.same("all stay", x.about(4), 12);
    }

    private static void branchesInARow() {
        WideMachine x = new WideMachine(64, 16);
        Asm.idles(x, 0, 64);
        x.word(0, Asm.go(Asm.S0, 20));
        x.word(1, Asm.go(Asm.S0, 30));
        x.word(2, Asm.go(Asm.S1, 40));
        x.run(3);
        check.same("three under way", x.about(4), 3);
        x.run(3);
        int[] addresses = {21, 31, 41, 42};
        for (int address : addresses) {
            x.run(1);
            check.same("one packet at each target", x.about(1), address);
        }
        check.same("none under way", x.about(4), 0);
        check.same("no state", x.about(0), 0);
    }

    private static void waiting() {
        int[][] asked = {{0, 0}, {1, 1}, {15, 15}, {-1, 15}, {-16, 0}, {-15, 1}};
        for (int[] pair : asked) {
            WideMachine x = new WideMachine(32, 16);
            Asm.idles(x, 0, 32);
            x.word(0, Asm.waitN(Asm.S0, pair[0]));
            x.run(1);
            check.same("WAIT " + pair[0], x.about(5), pair[1]);
            check.same("WAIT " + pair[0] + ": address", x.about(1), 1);
            for (int left = pair[1] - 1; left >= 0; left--) {
                x.run(1);
                check.same("one cycle less", x.about(5), left);
                check.same("no packet while it waits", x.about(1), 1);
            }
            x.run(1);
            check.same("WAIT " + pair[0] + ": over", x.about(1), 2);
            check.same("WAIT " + pair[0] + ": all cycles count", x.about(2), pair[1] + 2);
        }
        WideMachine x = new WideMachine(32, 16);
        x.set(5, 0x123);
        x.word(0, Asm.op(Asm.S1, Asm.WAIT, 0, 0, 5));
        x.run(1);
        check.same("WAIT of a register's lowest four bits", x.about(5), 3);
        x.word(0, Asm.ifNotZero(1, Asm.waitN(Asm.S0, 9)));
        x.start(0);
        x.run(1);
        check.same("a WAIT that is not done", x.about(5), 0);
    }

    private static void longerOfTwoWaits() {
        int[][] pairs = {{3, 9, 9}, {9, 3, 9}, {-16, 2, 2}, {-1, 7, 15}};
        for (int[] pair : pairs) {
            WideMachine x = new WideMachine(16, 16);
            Asm.packet(x, 0, Asm.waitN(Asm.S0, pair[0]), Asm.waitN(Asm.S1, pair[1]));
            x.run(1);
            check.same("WAIT " + pair[0] + " and " + pair[1], x.about(5), pair[2]);
        }
        WideMachine x = new WideMachine(16, 16);
        Asm.packet(x, 0, Asm.waitN(Asm.S0, 3), Asm.ifNotZero(1, Asm.waitN(Asm.S1, 9)));
        x.run(1);
        check.same("the longer one is not done", x.about(5), 3);
    }

    private static void branchWhileWaiting() {
        WideMachine x = new WideMachine(32, 16);
        Asm.idles(x, 0, 32);
        x.word(0, Asm.go(Asm.S0, 20));
        x.word(1, Asm.waitN(Asm.S0, 10));
        x.run(6);
        check.same("before the branch", x.about(1), 2);
        x.run(1);
        check.same("the branch goes, the machine still waits", x.about(1), 20);
        check.same("no branch is due", x.about(4), 0);
        check.same("it waits", x.about(5), 5);
        x.run(5);
        check.same("up to the end of it", x.about(1), 20);
        x.run(1);
        check.same("then it goes on there", x.about(1), 21);
        Asm.packet(x, 8, Asm.waitN(Asm.S0, 5), Asm.go(Asm.S1, 24));
        x.start(8);
        x.run(7);
        check.same("WAIT 5 beside a branch", x.about(1), 25);
    }

    private static void writesWhileWaiting() {
        WideMachine x = new WideMachine(32, 16);
        x.poke(0, 7);
        Asm.packet(x, 0, Asm.waitN(Asm.S0, 15), Asm.opN(Asm.L0, Asm.ADD, 1, 0, 5),
            Asm.opN(Asm.D0, Asm.LOAD, 2, 0, 0));
        x.run(2);
        check.same("a write lands while it waits", x.get(1), 5);
        x.run(4);
        check.same("a LOAD lands while it waits", x.get(2), 7);
        Asm.packet(x, 8, Asm.waitN(Asm.S0, 15), Asm.opN(Asm.L0, Asm.ADD, 1, 0, 5),
            Asm.opN(Asm.D0, Asm.ADD, 1, 0, 6));
        x.start(8);
        check.same("writes clash while it waits", x.run(9), 2);
        check.same("writes clash while it waits: state", x.about(0), 5);
        check.same("writes clash while it waits: it waits no less", x.about(5), 15);
        Asm.packet(x, 16, Asm.go(Asm.S0, 3), Asm.go(Asm.S1, 3));
        x.word(18, Asm.waitN(Asm.S0, 15));
        x.start(16);
        check.same("branches clash while it waits", x.run(9), 7);
        check.same("branches clash while it waits: state", x.about(0), 6);
        check.same("branches clash while it waits: it waits no less", x.about(5), 11);
    }

    private static void halting() {
        WideMachine x = new WideMachine(32, 16);
        x.set(1, 50);
        Asm.packet(x, 8, Asm.halt(Asm.S0), Asm.opN(Asm.L0, Asm.ADD, 2, 1, 1),
            Asm.opN(Asm.D0, Asm.STORE, 1, 3, 2), Asm.waitN(Asm.S1, 6));
        x.start(8);
        check.same("HALT: run", x.run(10), 1);
        check.same("HALT: state", x.about(0), 9);
        check.same("HALT: address", x.about(1), 12);
        check.same("HALT: a write of its packet is due", x.due(0, 1), 51);
        check.same("HALT: a STORE of its packet is done", x.peek(2), 50);
        check.same("HALT: a WAIT of its packet is done", x.about(5), 6);
        check.same("HALT: no cycle more", x.run(10), 0);
        check.same("HALT: nothing lands", x.get(2), 0);
        Asm.packet(x, 16, Asm.ifNotZero(1, Asm.halt(Asm.S0)), Asm.go(Asm.S1, 3));
        x.start(16);
        check.same("a HALT that is not done", x.run(1), 1);
        check.same("a HALT that is not done: state", x.about(0), 0);
        Asm.packet(x, 20, Asm.halt(Asm.S0), Asm.go(Asm.S1, 3));
        x.start(20);
        x.run(1);
        check.same("HALT: a branch of its packet is due", x.about(4), 1);
    }
}
