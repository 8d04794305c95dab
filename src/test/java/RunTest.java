/** Promises 7, 8, 9 and 12, sentence by sentence: run, about, due and start. */
public final class RunTest {
    private static final int NONE = WideMachine.NONE;
    private static final int LEAST = Integer.MIN_VALUE;
    private static final int MOST = Integer.MAX_VALUE;

    private static final Check check = new Check();

    public static void main(String[] args) {
        atMost();
        whileTheStateIsZero();
        cycleOfAnotherStateCounts();
        runRefused();
        fiveHundredAndTwelveCalls();
        about();
        aboutLines();
        aboutAnother();
        due();
        dueByAddress();
        dueInHowManyCycles();
        dueZeroCycles();
        dueMost();
        dueNoneSuch();
        dueNoSuchWhat();
        start();
        startAtEdges();
        startInEachState();
        startNothingIsDue();
        startKeeps();
        startRefused();
        check.end();
    }

    private static WideMachine idling(int words) {
        WideMachine x = new WideMachine(words, 16);
        Asm.idles(x, 0, words);
        return x;
    }

    /** A machine that goes round for ever, a turn each six cycles, and counts the turns in register 1. */
    private static WideMachine goingRound() {
        WideMachine x = idling(16);
        x.word(0, Asm.go(Asm.S0, 0));
        x.word(1, Asm.opN(Asm.L0, Asm.ADD, 1, 1, 1));
        return x;
    }

    private static void atMost() {
        check.sentence("Cycles are done, n at most");
        WideMachine x = goingRound();
        int cycles = 0;
        for (int n : new int[] {0, 1, 2, 0, 7, 1999, 2000}) {
            check.same("run(" + n + ")", x.run(n), n);
            cycles += n;
            check.same("cycles after run(" + n + ")", x.about(2), cycles);
        }
    }

    private static void whileTheStateIsZero() {
        check.sentence("Cycles are done, n at most, while the state is 0: how many");
        for (int n : new int[] {21, 22, 100, 2000}) {
            WideMachine x = idling(64);
            x.word(20, Asm.halt(Asm.S0));
            check.same("run(" + n + ") up to HALT", x.run(n), 21);
            check.same("run(" + n + ") then", x.run(n), 0);
            check.same("run(0) then", x.run(0), 0);
            check.same("cycles", x.about(2), 21);
        }
        WideMachine x = idling(64);
        x.word(20, Asm.halt(Asm.S0));
        check.same("run(20) before HALT", x.run(20), 20);
        check.same("state before HALT", x.about(0), 0);
        check.same("run(2000) before HALT", x.run(2000), 1);
    }

    /** Puts at 0 what brings a machine of 20 idle words into a state; answers in how many cycles. */
    private static int stopping(WideMachine x, int state) {
        switch (state) {
            case 1:
                for (int i = 0; i < 8; i++) {
                    x.word(i, Asm.and(Asm.idle()));
                }
                return 1;
            case 2:
                x.word(0, -1);
                return 1;
            case 3:
                Asm.packet(x, 0, Asm.idle(), Asm.idle());
                return 1;
            case 4:
                Asm.packet(x, 0, Asm.op(Asm.L0, Asm.ADD, 1, 1, 17), Asm.op(Asm.D0, Asm.ADD, 2, 1, 17));
                return 1;
            case 5:
                Asm.packet(x, 0, Asm.opN(Asm.L0, Asm.ADD, 5, 5, 1), Asm.opN(Asm.D0, Asm.ADD, 5, 5, 2));
                return 2;
            case 6:
                Asm.packet(x, 0, Asm.go(Asm.S0, 3), Asm.go(Asm.S1, 3));
                return 7;
            case 7:
                x.word(0, Asm.opN(Asm.D0, Asm.LOAD, 1, 1, -1));
                return 1;
            case 8:
                return 21;
            default:
                x.word(0, Asm.halt(Asm.S0));
                return 1;
        }
    }

    private static void cycleOfAnotherStateCounts() {
        check.sentence("(one in which it becomes another one counts)");
        for (int state = 1; state <= 9; state++) {
            WideMachine x = idling(20);
            int cycles = stopping(x, state);
            check.same("state " + state + ": run", x.run(100), cycles);
            check.same("state " + state + ": state", x.about(0), state);
            check.same("state " + state + ": cycles", x.about(2), cycles);
        }
    }

    private static void runRefused() {
        check.sentence("run: NONE if n is below 0 or above 2000");
        int[] wrong = {-1, -2, -2000, LEAST, 2001, 2002, 4000, MOST};
        WideMachine x = goingRound();
        for (int n : wrong) {
            check.same("run(" + n + ")", x.run(n), NONE);
        }
        check.same("no cycle was done: cycles", x.about(2), 0);
        check.same("no cycle was done: address", x.about(1), 0);
        x.word(0, Asm.halt(Asm.S0));
        x.run(1);
        for (int n : wrong) {
            check.same("run(" + n + ") when halted", x.run(n), NONE);
        }
        check.same("cycles when halted", x.about(2), 1);
    }

    private static void fiveHundredAndTwelveCalls() {
        check.sentence("An object is used for at most 512 calls after it has been made");
        WideMachine x = idling(16);
        x.word(0, Asm.go(Asm.S0, 0));
        x.word(1, Asm.opN(Asm.L0, Asm.ADD, 1, 1, 1));
        // 18 calls were made so far, 492 follow here, and two behind them.
        for (int call = 0; call < 492; call++) {
            check.same("run(2000)", x.run(2000), 2000);
        }
        check.same("call 511: cycles", x.about(2), 984000);
        check.same("call 512: turns", x.get(1), 164000);
    }

    private static void about() {
        check.sentence("What 0: the state, 1: the address, 2: how many cycles were done, 3: writes that are due, ...");
        WideMachine x = new WideMachine(64, 16);
        Asm.packet(x, 33, Asm.go(Asm.S0, 3), Asm.waitN(Asm.S1, 9), Asm.opN(Asm.L0, Asm.ADD, 1, 1, 1),
            Asm.op(Asm.M0, Asm.MPY, 2, 1, 1), Asm.opN(Asm.D0, Asm.LOAD, 3, 0, 0));
        Asm.packet(x, 32, Asm.idle());
        x.start(7);
        x.letIn(true);
        x.raise(3);
        x.run(2);
        x.raise(2);
        x.raise(0);
        x.letIn(true);
        int[] due = {0, 38, 2, 3, 1, 9, 7, 1, 5};
        for (int what = 0; what < due.length; what++) {
            check.same("about(" + what + ")", x.about(what), due[what]);
            check.same("about(" + what + ") again", x.about(what), due[what]);
        }
    }

    private static void aboutLines() {
        check.sentence("7: 1 if interrupts are let in, else 0, 8: lines that are raised, bit k for line k");
        for (int lines = 0; lines < 16; lines++) {
            WideMachine x = new WideMachine(64, 16);
            for (int line = 0; line < 4; line++) {
                if ((lines >> line & 1) != 0) {
                    x.raise(line);
                }
            }
            check.same("the lines", x.about(8), lines);
            check.same("not let in", x.about(7), 0);
            x.letIn(true);
            check.same("let in", x.about(7), 1);
        }
    }

    private static void aboutAnother() {
        check.sentence("about: NONE for another what");
        WideMachine x = goingRound();
        x.run(9);
        for (int what : new int[] {-1, 9, 10, 16, 256, -9, LEAST, MOST}) {
            check.same("about(" + what + ")", x.about(what), NONE);
        }
    }

    private static void sameDue(String text, WideMachine x, int[][] due) {
        check.same(text + ": how many", x.about(3), due.length);
        for (int i = 0; i < due.length; i++) {
            for (int what = 0; what < 3; what++) {
                check.same(text + ": due(" + i + ", " + what + ")", x.due(i, what), due[i][what]);
            }
        }
        check.same(text + ": none behind", x.due(due.length, 0), NONE);
    }

    private static void due() {
        check.sentence("Of the writes that are due, in the order in which the words that make them were done");
        WideMachine x = idling(64);
        x.poke(3, 333);
        x.set(1, 6);
        x.set(17, -7);
        Asm.packet(x, 0, Asm.op(Asm.M1, Asm.MPY, 20, 17, 17), Asm.opN(Asm.D0, Asm.LOAD, 4, 5, 3),
            Asm.ifZero(4, Asm.opN(Asm.S0, Asm.ADD, 9, 1, 0)), Asm.opN(Asm.L0, Asm.ADD, 6, 1, 2));
        x.word(4, Asm.op(Asm.M0, Asm.MPY, 7, 1, 1));
        x.word(5, Asm.opN(Asm.D0, Asm.LOAD, 8, 5, 4));
        sameDue("at first", x, new int[][] {});
        x.run(1);
        sameDue("one packet", x, new int[][] {{20, 49, 2}, {4, 333, 5}, {6, 8, 1}});
        x.run(1);
        sameDue("two packets", x, new int[][] {{20, 49, 1}, {4, 333, 4}, {7, 36, 2}});
        x.run(1);
        sameDue("three packets", x, new int[][] {{4, 333, 3}, {7, 36, 1}, {8, 0, 5}});
        x.run(1);
        sameDue("four packets", x, new int[][] {{4, 333, 2}, {8, 0, 4}});
        x.run(2);
        sameDue("six packets", x, new int[][] {{8, 0, 2}});
        x.run(2);
        sameDue("eight packets", x, new int[][] {});
    }

    private static void dueByAddress() {
        check.sentence("(those of a packet by their addresses)");
        int[] upwards = {0, 1, 2, 3, 4, 5, 6, 7};
        int[] downwards = {7, 6, 5, 4, 3, 2, 1, 0};
        int[] mixed = {5, 0, 3, 6, 2, 7, 1, 4};
        for (int[] units : new int[][] {upwards, downwards, mixed}) {
            WideMachine x = idling(16);
            for (int i = 0; i < 8; i++) {
                int base = units[i] < 4 ? 0 : 16;
                int w = Asm.opN(units[i], Asm.ADD, base + units[i], base + 15, 1);
                x.word(i, i < 7 ? Asm.and(w) : w);
            }
            x.run(1);
            for (int i = 0; i < 8; i++) {
                check.same("write " + i, x.due(i, 0), (units[i] < 4 ? 0 : 16) + units[i]);
            }
        }
    }

    private static void dueInHowManyCycles() {
        check.sentence("2: in how many cycles' time (1: in the next one)");
        WideMachine x = idling(16);
        x.set(5, 3);
        x.word(0, Asm.opN(Asm.D0, Asm.LOAD, 5, 0, 0));
        x.run(1);
        for (int left = 5; left >= 1; left--) {
            check.same("before so many", x.due(0, 2), left);
            check.same("it has not landed", x.get(5), 3);
            x.run(1);
        }
        check.same("it has landed", x.get(5), 0);
        check.same("it is due no more", x.due(0, 2), NONE);
        x.word(8, Asm.and(Asm.halt(Asm.S0)));
        x.word(9, Asm.opN(Asm.D0, Asm.LOAD, 5, 0, 0));
        x.start(8);
        x.run(3);
        check.same("when halted it stays due", x.due(0, 2), 5);
    }

    private static void dueZeroCycles() {
        check.sentence("0: in the latest one, in which it did not land, as the state became 5");
        WideMachine x = idling(16);
        Asm.packet(x, 0, Asm.opN(Asm.L0, Asm.ADD, 5, 5, 1), Asm.opN(Asm.M0, Asm.MPY, 7, 5, 2),
            Asm.opN(Asm.D0, Asm.ADD, 5, 5, 2), Asm.opN(Asm.L1, Asm.ADD, 20, 20, 3),
            Asm.opN(Asm.D1, Asm.LOAD, 21, 20, 3));
        x.run(9);
        check.same("state", x.about(0), 5);
        sameDue("the writes", x, new int[][] {{5, 1, 0}, {7, 0, 1}, {5, 2, 0}, {20, 3, 0}, {21, 0, 4}});
        x.run(9);
        sameDue("and later", x, new int[][] {{5, 1, 0}, {7, 0, 1}, {5, 2, 0}, {20, 3, 0}, {21, 0, 4}});
    }

    /** As many writes as can be due at once: 8 of the last packet, 10 of those before. */
    private static void dueMost() {
        check.sentence("Of the writes that are due ... the i-th (as many as there can be)");
        WideMachine x = new WideMachine(64, 16);
        for (int row = 0; row < 8; row++) {
            Asm.packet(x, 8 * row, Asm.opN(Asm.L0, Asm.ADD, 0, 15, 0), Asm.opN(Asm.S0, Asm.ADD, 1, 15, 0),
                Asm.opN(Asm.M0, Asm.MPY, 2, 15, 0), Asm.opN(Asm.D0, Asm.LOAD, 3, 15, row),
                Asm.opN(Asm.L1, Asm.ADD, 16, 31, 0), Asm.opN(Asm.S1, Asm.ADD, 17, 31, 0),
                Asm.opN(Asm.M1, Asm.MPY, 18, 31, 0), Asm.opN(Asm.D1, Asm.LOAD, 19, 31, row));
            x.poke(row, 100 + row);
        }
        int[] counts = {8, 12, 14, 16, 18, 18, 18, 18};
        for (int i = 0; i < 8; i++) {
            x.run(1);
            check.same("writes after packet " + i, x.about(3), counts[i]);
        }
        int[] registers = {3, 19, 3, 19, 3, 19, 2, 3, 18, 19, 0, 1, 2, 3, 16, 17, 18, 19};
        int[] times = {1, 1, 2, 2, 3, 3, 1, 4, 1, 4, 1, 1, 2, 5, 1, 1, 2, 5};
        for (int i = 0; i < 18; i++) {
            check.same("due(" + i + ", 0)", x.due(i, 0), registers[i]);
            check.same("due(" + i + ", 2)", x.due(i, 2), times[i]);
        }
        check.same("the oldest: value", x.due(0, 1), 103);
        check.same("the latest: value", x.due(17, 1), 107);
        check.same("none behind", x.due(18, 0), NONE);
    }

    private static void dueNoneSuch() {
        check.sentence("due: NONE if there is none such");
        WideMachine x = idling(16);
        int[] far = {-1, -2, 18, 1000, LEAST, MOST};
        for (int i : far) {
            check.same("none is due: due(" + i + ", 2)", x.due(i, 2), NONE);
        }
        check.same("none is due: due(0, 0)", x.due(0, 0), NONE);
        Asm.packet(x, 0, Asm.opN(Asm.L0, Asm.ADD, 5, 5, 1), Asm.opN(Asm.S0, Asm.ADD, 6, 5, 1));
        x.run(1);
        for (int what = 0; what < 3; what++) {
            for (int i : far) {
                check.same("two are due: due(" + i + ", " + what + ")", x.due(i, what), NONE);
            }
            check.same("two are due: due(2, " + what + ")", x.due(2, what), NONE);
            check.isTrue("two are due: due(1, " + what + ")", x.due(1, what) != NONE);
        }
        x.run(1);
        check.same("they have landed: due(0, 0)", x.due(0, 0), NONE);
        check.same("they have landed: due(1, 0)", x.due(1, 0), NONE);
    }

    private static void dueNoSuchWhat() {
        check.sentence("due: NONE if there is none such (no such what)");
        WideMachine x = idling(16);
        x.word(0, Asm.opN(Asm.L0, Asm.ADD, 5, 5, 1));
        x.run(1);
        for (int what : new int[] {-1, 3, 4, 8, LEAST, MOST}) {
            check.same("due(0, " + what + ")", x.due(0, what), NONE);
            check.same("due(1, " + what + ")", x.due(1, what), NONE);
        }
    }

    private static void start() {
        check.sentence("The machine begins anew at an address");
        WideMachine x = idling(40);
        for (int at : new int[] {8, 3, 3, 39, 0}) {
            check.isTrue("start(" + at + ")", x.start(at));
            check.same("start(" + at + "): address", x.about(1), at);
            x.run(1);
            check.same("start(" + at + "): the packet there is done", x.about(1), at + 1);
        }
    }

    private static void startAtEdges() {
        check.sentence("start: true; false if there is no such address (the first and the last)");
        for (int words : new int[] {16, 17, 255, 256}) {
            WideMachine x = new WideMachine(words, 16);
            check.isTrue("start(0) of " + words, x.start(0));
            check.isTrue("start(last) of " + words, x.start(words - 1));
            check.same("address", x.about(1), words - 1);
            check.isFalse("start(behind) of " + words, x.start(words));
            check.isFalse("start(-1) of " + words, x.start(-1));
            check.same("address still", x.about(1), words - 1);
        }
    }

    private static void startInEachState() {
        check.sentence("the state and what it waits are 0");
        for (int state = 1; state <= 9; state++) {
            WideMachine x = idling(20);
            stopping(x, state);
            x.run(100);
            check.same("before: state " + state, x.about(0), state);
            check.isTrue("start(10)", x.start(10));
            check.same("state " + state + " is 0", x.about(0), 0);
            check.same("it runs from there", x.run(3), 3);
            check.same("and behind that", x.about(1), 13);
        }
        WideMachine x = idling(20);
        x.word(0, Asm.waitN(Asm.S0, 15));
        x.run(1);
        x.start(10);
        check.same("what it waits", x.about(5), 0);
        x.run(1);
        check.same("it waits no more", x.about(1), 11);
    }

    private static void startNothingIsDue() {
        check.sentence("nothing is due");
        WideMachine x = idling(64);
        x.poke(0, 5);
        Asm.packet(x, 0, Asm.go(Asm.S0, 60), Asm.opN(Asm.L0, Asm.ADD, 1, 1, 1), Asm.opN(Asm.M0, Asm.MPY, 2, 1, 1),
            Asm.opN(Asm.D0, Asm.LOAD, 3, 4, 0));
        x.run(1);
        x.start(40);
        check.same("writes", x.about(3), 0);
        check.same("branches", x.about(4), 0);
        check.same("due(0, 0)", x.due(0, 0), NONE);
        x.run(10);
        check.same("no branch goes", x.about(1), 50);
        check.same("no sum lands", x.get(1), 0);
        check.same("no data word lands", x.get(3), 0);
    }

    private static void startKeeps() {
        check.sentence("registers, data, RETURN, lines, cycles and whether interrupts are let in stay: true");
        for (int isIn = 0; isIn < 2; isIn++) {
            WideMachine x = idling(64);
            x.start(5);
            x.letIn(true);
            x.raise(2);
            x.run(4);
            x.raise(1);
            x.raise(3);
            x.letIn(isIn == 1);
            x.set(0, 8);
            x.set(31, -8);
            x.poke(0, 11);
            x.poke(15, 12);
            check.isTrue("start(40)", x.start(40));
            int[] due = {0, 40, 4, 0, 0, 0, 5, isIn, 10};
            for (int what = 0; what < due.length; what++) {
                check.same("about(" + what + ")", x.about(what), due[what]);
            }
            check.same("register 0", x.get(0), 8);
            check.same("register 31", x.get(31), -8);
            check.same("data word 0", x.peek(0), 11);
            check.same("data word 15", x.peek(15), 12);
            x.letIn(false);
            x.run(2);
            check.same("the program stays", x.about(1), 42);
            check.same("cycles go on", x.about(2), 6);
        }
    }

    private static void startRefused() {
        check.sentence("start: false if there is no such address");
        int[] wrong = {-1, 64, 65, 256, -64, LEAST, MOST};
        for (int at : wrong) {
            WideMachine x = idling(64);
            Asm.packet(x, 0, Asm.go(Asm.S0, 60), Asm.waitN(Asm.S1, 12), Asm.opN(Asm.D0, Asm.LOAD, 3, 4, 0));
            x.run(2);
            check.isFalse("start(" + at + ")", x.start(at));
            int[] due = {0, 3, 2, 1, 1, 11, 0, 0, 0};
            for (int what = 0; what < due.length; what++) {
                check.same("nothing is another one: about(" + what + ")", x.about(what), due[what]);
            }
            check.same("the write is due still", x.due(0, 2), 4);
            x.word(8, -1);
            x.start(8);
            x.run(1);
            check.isFalse("start(" + at + ") in state 2", x.start(at));
            check.same("the state stays", x.about(0), 2);
            check.same("the address stays", x.about(1), 8);
        }
    }
}
