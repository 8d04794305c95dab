/** Promises 7, 8, 9 and 12: run, about, due and start. */
public final class RunTest {
    private static final int NONE = WideMachine.NONE;

    private static final Check check = new Check();

    public static void main(String[] args) {
        run();
        longRun();
        about();
        due();
        mostDue();
        start();
        startKeeps();
        check.end();
    }

    private static void run() {
        WideMachine x = new WideMachine(64, 16);
        Asm.idles(x, 0, 64);
        x.word(20, Asm.halt(Asm.S0));
        check.same("run(0)", x.run(0), 0);
        check.same("run(0): cycles", x.about(2), 0);
        check.same("run(-1)", x.run(-1), NONE);
        check.same("run(2001)", x.run(2001), NONE);
        check.same("run(least)", x.run(Integer.MIN_VALUE), NONE);
        check.same("run(most)", x.run(Integer.MAX_VALUE), NONE);
        check.same("no cycle of those", x.about(2), 0);
        check.same("run(7)", x.run(7), 7);
        check.same("run(7): address", x.about(1), 7);
        check.same("run(2000) up to HALT", x.run(2000), 14);
        check.same("cycles", x.about(2), 21);
        check.same("run when halted", x.run(2000), 0);
        check.same("run(0) when halted", x.run(0), 0);
        check.same("run(-1) when halted", x.run(-1), NONE);
        check.same("run(2001) when halted", x.run(2001), NONE);
        check.same("cycles when halted", x.about(2), 21);
    }

    private static void longRun() {
        WideMachine x = new WideMachine(16, 16);
        Asm.idles(x, 0, 16);
        x.word(0, Asm.go(Asm.S0, 0));
        x.word(1, Asm.opN(Asm.L0, Asm.ADD, 1, 1, 1));
        for (int i = 1; i <= 300; i++) {
            check.same("run(2000)", x.run(2000), 2000);
        }
        check.same("600000 cycles", x.about(2), 600000);
        check.same("a turn each six of them", x.get(1), 100000);
    }

    private static void about() {
        WideMachine x = new WideMachine(64, 16);
        int[] wrong = {-1, 9, 10, Integer.MIN_VALUE, Integer.MAX_VALUE};
        for (int what : wrong) {
            check.same("about(" + what + ")", x.about(what), NONE);
        }
        Asm.packet(x, 33, Asm.go(Asm.S0, 3), Asm.waitN(Asm.S1, 9), Asm.opN(Asm.L0, Asm.ADD, 1, 1, 1),
            Asm.op(Asm.M0, Asm.MPY, 2, 1, 1), Asm.opN(Asm.D0, Asm.LOAD, 3, 0, 0));
        x.letIn(true);
        x.raise(3);
        Asm.packet(x, 32, Asm.idle());
        x.run(2);
        x.raise(2);
        x.raise(0);
        x.letIn(true);
        int[] due = {0, 38, 2, 3, 1, 9, 0, 1, 5};
        for (int what = 0; what < due.length; what++) {
            check.same("about(" + what + ")", x.about(what), due[what]);
        }
        check.same("the same again", x.about(3), 3);
    }

    private static void sameDue(String text, WideMachine x, int[][] due) {
        check.same(text + ": how many", x.about(3), due.length);
        for (int i = 0; i < due.length; i++) {
            for (int what = 0; what < 3; what++) {
                check.same(text + ": due(" + i + ", " + what + ")", x.due(i, what), due[i][what]);
            }
        }
        for (int what = -1; what <= 3; what++) {
            check.same(text + ": due(-1, " + what + ")", x.due(-1, what), NONE);
            check.same(text + ": due(" + due.length + ", " + what + ")", x.due(due.length, what), NONE);
        }
        check.same(text + ": due(0, -1)", x.due(0, -1), NONE);
        check.same(text + ": due(0, 3)", x.due(0, 3), NONE);
        check.same(text + ": due(least, 0)", x.due(Integer.MIN_VALUE, 0), NONE);
        check.same(text + ": due(most, 0)", x.due(Integer.MAX_VALUE, 0), NONE);
    }

    private static void due() {
        WideMachine x = new WideMachine(64, 16);
        Asm.idles(x, 0, 64);
        sameDue("at first", x, new int[][] {});
        x.poke(3, 333);
        x.set(1, 6);
        x.set(17, -7);
        // The order of a packet's writes is that of its words, not of its units.
        Asm.packet(x, 0, Asm.op(Asm.M1, Asm.MPY, 20, 17, 17), Asm.opN(Asm.D0, Asm.LOAD, 4, 5, 3),
            Asm.ifZero(4, Asm.opN(Asm.S0, Asm.ADD, 9, 1, 0)), Asm.opN(Asm.L0, Asm.ADD, 6, 1, 2));
        x.word(4, Asm.op(Asm.M0, Asm.MPY, 7, 1, 1));
        x.word(5, Asm.opN(Asm.D0, Asm.LOAD, 8, 5, 4));
        x.run(1);
        sameDue("one packet", x, new int[][] {{20, 49, 2}, {4, 333, 5}, {6, 8, 1}});
        x.run(1);
        sameDue("two packets", x, new int[][] {{20, 49, 1}, {4, 333, 4}, {7, 36, 2}});
        x.run(1);
        sameDue("three packets", x, new int[][] {{4, 333, 3}, {7, 36, 1}, {8, 0, 5}});
        x.run(1);
        sameDue("four packets", x, new int[][] {{4, 333, 2}, {8, 0, 4}});
        x.set(4, 1);
        x.run(2);
        sameDue("six packets", x, new int[][] {{8, 0, 2}});
        check.same("landed over what was set", x.get(4), 333);
        x.run(2);
        sameDue("eight packets", x, new int[][] {});
    }

    /** As many writes as can be due at once: 8 of the last packet, 10 of those before. */
    private static void mostDue() {
        WideMachine x = new WideMachine(64, 16);
        for (int row = 0; row < 8; row++) {
            Asm.packet(x, 8 * row, Asm.opN(Asm.L0, Asm.ADD, 0, 15, 0), Asm.opN(Asm.S0, Asm.ADD, 1, 15, 0),
                Asm.opN(Asm.M0, Asm.MPY, 2, 15, 0), Asm.opN(Asm.D0, Asm.LOAD, 3, 15, row),
                Asm.opN(Asm.L1, Asm.ADD, 16, 31, 0), Asm.opN(Asm.S1, Asm.ADD, 17, 31, 0),
                Asm.opN(Asm.M1, Asm.MPY, 18, 31, 0), Asm.opN(Asm.D1, Asm.LOAD, 19, 31, row));
            x.poke(row, 100 + row);
        }
        int[] counts = {8, 12, 14, 16, 18, 18, 18, 18};
        for (int i = 0; i < 8; i++) {
            x.run(1);
            check.same("writes after packet " + i, x.about(3), counts[i]);
        }
        check.same("the oldest", x.due(0, 1), 103);
        check.same("the latest", x.due(17, 0), 19);
        check.same("the latest: value", x.due(17, 1), 107);
        check.same("the latest: time", x.due(17, 2), 5);
        check.same("none behind", x.due(18, 0), NONE);
        check.same("no state", x.about(0), 0);
        x.start(0);
        Asm.packet(x, 0, Asm.halt(Asm.S0));
        x.run(1);
        sameDue("begun anew", x, new int[][] {});
    }

    private static void start() {
        WideMachine x = new WideMachine(40, 16);
        Asm.idles(x, 0, 40);
        check.isTrue("start(39)", x.start(39));
        check.same("start(39): address", x.about(1), 39);
        check.isTrue("start(0)", x.start(0));
        check.same("start(0): address", x.about(1), 0);
        x.start(7);
        int[] wrong = {-1, 40, 256, Integer.MIN_VALUE, Integer.MAX_VALUE};
        for (int address : wrong) {
            check.isFalse("start(" + address + ")", x.start(address));
            check.same("start(" + address + ") changes nothing", x.about(1), 7);
        }
        x.word(0, -1);
        x.start(0);
        x.run(1);
        check.same("a state", x.about(0), 2);
        check.isFalse("start(40) in a state", x.start(40));
        check.same("the state stays", x.about(0), 2);
        check.isTrue("start(8) in a state", x.start(8));
        check.same("the state is 0", x.about(0), 0);
        check.same("and it runs", x.run(3), 3);
        check.same("from there", x.about(1), 11);
    }

    private static void startKeeps() {
        WideMachine x = new WideMachine(64, 16);
        Asm.idles(x, 0, 64);
        x.letIn(true);
        x.raise(2);
        x.start(5);
        check.same("interrupts are let in still", x.about(7), 1);
        check.same("the line is raised still", x.about(8), 4);
        Asm.packet(x, 24, Asm.go(Asm.S0, 60), Asm.waitN(Asm.S1, 12), Asm.opN(Asm.L0, Asm.ADD, 1, 1, 1),
            Asm.opN(Asm.D0, Asm.LOAD, 3, 0, 0), Asm.op(Asm.D1, Asm.STORE, 16, 16, 16));
        x.set(16, 4);
        x.set(0, 8);
        x.run(2);
        x.raise(1);
        check.isFalse("start(64)", x.start(64));
        check.same("waits still", x.about(5), 11);
        check.same("a branch is due still", x.about(4), 1);
        check.same("a write is due still", x.about(3), 1);
        check.isTrue("start(40)", x.start(40));
        int[] due = {0, 40, 2, 0, 0, 0, 5, 0, 2};
        for (int what = 0; what < due.length; what++) {
            check.same("start: about(" + what + ")", x.about(what), due[what]);
        }
        check.same("start: a register", x.get(1), 1);
        check.same("start: a data word", x.peek(8), 4);
        check.same("start: due", x.due(0, 0), NONE);
        x.poke(8, 99);
        x.run(10);
        check.same("no branch goes and no cycle waits", x.about(1), 50);
        check.same("no write lands", x.get(3), 0);
        check.same("cycles go on", x.about(2), 12);
    }
}
