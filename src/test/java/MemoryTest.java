/** Promises 1 to 6: a new object, and its program, data and registers. */
public final class MemoryTest {
    public static void main(String[] args) {
        Check check = new Check();
        newObject(check);
        sizes(check);
        word(check);
        data(check);
        registers(check);
        check.end();
    }

    private static void newObject(Check check) {
        WideMachine x = new WideMachine(16, 16);
        for (int what = 0; what <= 8; what++) {
            check.same("new: about(" + what + ")", x.about(what), 0);
        }
        for (int i = 0; i < 32; i++) {
            check.same("new: get(" + i + ")", x.get(i), 0);
        }
        for (int i = 0; i < 16; i++) {
            check.same("new: peek(" + i + ")", x.peek(i), 0);
        }
        check.same("new: due(0, 0)", x.due(0, 0), WideMachine.NONE);
        // A word that is 0 is ADD of registers 0, so 16 packets are done before the end of the program.
        check.same("new: run over words that are 0", x.run(100), 17);
        check.same("new: they are ADDs", x.about(0), 8);
    }

    private static void sizes(Check check) {
        size(check, Integer.MIN_VALUE, 16);
        size(check, -1, 16);
        size(check, 0, 16);
        size(check, 15, 16);
        size(check, 16, 16);
        size(check, 17, 17);
        size(check, 255, 255);
        size(check, 256, 256);
        size(check, 257, 256);
        size(check, Integer.MAX_VALUE, 256);
    }

    private static void size(Check check, int asked, int due) {
        WideMachine p = new WideMachine(asked, 20);
        check.isTrue("program " + asked + ": the last word", p.word(due - 1, 0));
        check.isFalse("program " + asked + ": the word behind", p.word(due, 0));
        check.isTrue("program " + asked + ": the last of the data", p.poke(19, 0));
        check.isFalse("program " + asked + ": behind the data", p.poke(20, 0));
        WideMachine d = new WideMachine(20, asked);
        check.isTrue("data " + asked + ": the last word", d.poke(due - 1, 0));
        check.isFalse("data " + asked + ": the word behind", d.poke(due, 0));
        check.isTrue("data " + asked + ": the last of the program", d.word(19, 0));
        check.isFalse("data " + asked + ": behind the program", d.word(20, 0));
    }

    private static void word(Check check) {
        WideMachine x = new WideMachine(40, 16);
        check.isTrue("word(0)", x.word(0, Asm.opN(Asm.L0, Asm.ADD, 1, 0, 7)));
        check.isFalse("word(-1)", x.word(-1, 0));
        check.isFalse("word(40)", x.word(40, 0));
        check.isFalse("word(least)", x.word(Integer.MIN_VALUE, 0));
        check.isFalse("word(most)", x.word(Integer.MAX_VALUE, 0));
        check.isTrue("word(39)", x.word(39, Asm.opN(Asm.L0, Asm.ADD, 2, 0, 9)));
        x.run(2);
        check.same("the word at 0 is done", x.get(1), 7);
        x.start(39);
        x.run(1);
        check.same("the word at 39 is done", x.due(0, 1), 9);
        check.isTrue("word(39) anew", x.word(39, Asm.opN(Asm.L0, Asm.ADD, 2, 0, -9)));
        x.start(39);
        x.run(1);
        check.same("the new word at 39 is done", x.due(0, 1), -9);
    }

    private static void data(Check check) {
        WideMachine x = new WideMachine(16, 24);
        check.isTrue("poke(0)", x.poke(0, Integer.MIN_VALUE));
        check.isTrue("poke(23)", x.poke(23, Integer.MAX_VALUE));
        check.isTrue("poke(5)", x.poke(5, 1));
        check.isTrue("poke(5) anew", x.poke(5, -2));
        check.isFalse("poke(24)", x.poke(24, 3));
        check.isFalse("poke(-1)", x.poke(-1, 3));
        check.isFalse("poke(least)", x.poke(Integer.MIN_VALUE, 3));
        check.isFalse("poke(most)", x.poke(Integer.MAX_VALUE, 3));
        check.same("peek(0)", x.peek(0), Integer.MIN_VALUE);
        check.same("peek(23)", x.peek(23), Integer.MAX_VALUE);
        check.same("peek(5)", x.peek(5), -2);
        check.same("peek(4)", x.peek(4), 0);
        check.same("peek(24)", x.peek(24), 0);
        check.same("peek(-1)", x.peek(-1), 0);
        check.same("peek(least)", x.peek(Integer.MIN_VALUE), 0);
        check.same("peek(most)", x.peek(Integer.MAX_VALUE), 0);
    }

    private static void registers(Check check) {
        WideMachine x = new WideMachine(16, 16);
        for (int i = 0; i < 32; i++) {
            check.isTrue("set(" + i + ")", x.set(i, 1000 - 77 * i));
        }
        check.isFalse("set(32)", x.set(32, 5));
        check.isFalse("set(-1)", x.set(-1, 5));
        check.isFalse("set(least)", x.set(Integer.MIN_VALUE, 5));
        check.isFalse("set(most)", x.set(Integer.MAX_VALUE, 5));
        for (int i = 0; i < 32; i++) {
            check.same("get(" + i + ")", x.get(i), 1000 - 77 * i);
        }
        check.same("get(32)", x.get(32), 0);
        check.same("get(-1)", x.get(-1), 0);
        check.same("get(least)", x.get(Integer.MIN_VALUE), 0);
        check.same("get(most)", x.get(Integer.MAX_VALUE), 0);
        check.isTrue("set(31) anew", x.set(31, Integer.MIN_VALUE));
        check.same("get(31) anew", x.get(31), Integer.MIN_VALUE);
        check.same("no write is due of it", x.about(3), 0);
    }
}
