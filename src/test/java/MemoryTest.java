/** Promises 1 to 6, sentence by sentence: a new object, and its program, data and registers. */
public final class MemoryTest {
    private static final int LEAST = Integer.MIN_VALUE;
    private static final int MOST = Integer.MAX_VALUE;
    private static final int[] SIZES = {16, 17, 24, 100, 255, 256};
    private static final int[] TOO_SMALL = {15, 1, 0, -1, -16, -256, LEAST};
    private static final int[] TOO_LARGE = {257, 258, 512, 65536 + 20, MOST};
    private static final int[] INTS = {1, -1, 0, LEAST, MOST, 0x12345678};

    private static final Check check = new Check();

    public static void main(String[] args) {
        sizes();
        tooSmall();
        tooLarge();
        zeroAtFirst();
        countsAtFirst();
        returnAtFirst();
        notLetInAtFirst();
        stateAtFirst();
        word();
        wordRefused();
        poke();
        pokeRefused();
        peek();
        peekBeyond();
        set();
        setAtOnce();
        setRefused();
        get();
        getBeyond();
        check.end();
    }

    private static int[] noAddressOf(int size) {
        return new int[] {-1, size, size + 1, -size, 1000, 65536, LEAST, LEAST + 1, MOST};
    }

    private static void sizes() {
        check.sentence("So many words of program, 16 .. 256, and of data, 16 .. 256");
        for (int size : SIZES) {
            size(size, size);
        }
    }

    private static void tooSmall() {
        check.sentence("what is less or more is the nearest of these (less: 16)");
        for (int asked : TOO_SMALL) {
            size(asked, 16);
        }
        bothSizes(LEAST, MOST, 16, 256);
    }

    private static void tooLarge() {
        check.sentence("what is less or more is the nearest of these (more: 256)");
        for (int asked : TOO_LARGE) {
            size(asked, 256);
        }
        bothSizes(257, 15, 256, 16);
    }

    private static void size(int asked, int due) {
        bothSizes(asked, 20, due, 20);
        bothSizes(20, asked, 20, due);
    }

    private static void bothSizes(int program, int data, int words, int dataWords) {
        String text = "WideMachine(" + program + ", " + data + "): ";
        WideMachine x = new WideMachine(program, data);
        check.isTrue(text + "the last word", x.word(words - 1, Asm.idle()));
        check.isFalse(text + "the word behind", x.word(words, 0));
        check.isTrue(text + "start at the last word", x.start(words - 1));
        check.isFalse(text + "start behind it", x.start(words));
        check.same(text + "run over the last word", x.run(9), 2);
        check.same(text + "the state behind it", x.about(0), 8);
        check.isTrue(text + "the last of the data", x.poke(dataWords - 1, 7));
        check.isFalse(text + "behind the data", x.poke(dataWords, 7));
        check.same(text + "the last of the data is read", x.peek(dataWords - 1), 7);
    }

    private static void zeroAtFirst() {
        check.sentence("at addresses from 0 on; all are 0 at first");
        WideMachine x = new WideMachine(256, 256);
        for (int i = 0; i < 32; i++) {
            check.same("get(" + i + ")", x.get(i), 0);
        }
        for (int i = 0; i < 256; i++) {
            check.same("peek(" + i + ")", x.peek(i), 0);
        }
        // A word that is 0 is a packet of its own: register 0 is twice what it was.
        x.set(0, 1);
        check.same("run over words that are 0", x.run(31), 31);
        check.same("30 of them have landed", x.get(0), 1 << 30);
        check.same("run over the rest of them", x.run(2000), 226);
        check.same("the state behind them", x.about(0), 8);
    }

    private static void countsAtFirst() {
        check.sentence("Address, cycles, RETURN are 0");
        WideMachine x = new WideMachine(16, 16);
        check.same("address", x.about(1), 0);
        check.same("cycles", x.about(2), 0);
        check.same("RETURN", x.about(6), 0);
        check.same("writes", x.about(3), 0);
        check.same("branches", x.about(4), 0);
        check.same("waits", x.about(5), 0);
        check.same("lines", x.about(8), 0);
        check.same("no write is due", x.due(0, 0), WideMachine.NONE);
    }

    private static void returnAtFirst() {
        check.sentence("RETURN are 0 (where a BACK of a new object goes)");
        WideMachine x = new WideMachine(32, 16);
        Asm.idles(x, 0, 32);
        x.word(20, Asm.back(Asm.S0));
        x.start(20);
        x.run(7);
        check.same("behind the packet at 0", x.about(1), 1);
    }

    private static void notLetInAtFirst() {
        check.sentence("interrupts are not let in");
        WideMachine x = new WideMachine(64, 16);
        check.same("about(7)", x.about(7), 0);
        x.raise(0);
        x.run(1);
        check.same("the packet at 0 is done, not the interrupt's", x.about(1), 1);
        check.same("the line is raised still", x.about(8), 1);
    }

    private static void stateAtFirst() {
        check.sentence("the state is 0.");
        WideMachine x = new WideMachine(16, 16);
        check.same("about(0)", x.about(0), 0);
        check.same("a cycle is done", x.run(1), 1);
    }

    private static void word() {
        check.sentence("A program word is another one: true");
        for (int size : SIZES) {
            WideMachine x = new WideMachine(size, 16);
            for (int at : new int[] {0, 1, size / 2, size - 1}) {
                for (int number : new int[] {5, -6, 0}) {
                    String text = "word(" + at + ") of " + size;
                    check.isTrue(text, x.word(at, Asm.wide(Asm.S0, Asm.CONST, 3, number)));
                    x.start(at);
                    x.run(1);
                    check.same(text + " is done", x.due(0, 1), number);
                }
            }
            for (int w : INTS) {
                check.isTrue("word(0, " + w + ")", x.word(0, w));
            }
        }
    }

    private static void wordRefused() {
        check.sentence("word: false if there is no such address");
        for (int size : SIZES) {
            WideMachine x = new WideMachine(size, 16);
            Asm.idles(x, 0, size);
            for (int at : noAddressOf(size)) {
                check.isFalse("word(" + at + ") of " + size, x.word(at, Asm.halt(Asm.S0)));
            }
            check.same("no word is another one: run", x.run(2000), size + 1);
            check.same("no word is another one: state", x.about(0), 8);
        }
    }

    private static void poke() {
        check.sentence("A data word is another one: true");
        for (int size : SIZES) {
            WideMachine x = new WideMachine(16, size);
            for (int at : new int[] {0, 1, size / 2, size - 1}) {
                for (int v : INTS) {
                    check.isTrue("poke(" + at + ", " + v + ") of " + size, x.poke(at, v));
                    check.same("peek(" + at + ") of " + size, x.peek(at), v);
                }
            }
        }
    }

    private static void pokeRefused() {
        check.sentence("poke: false if there is no such address");
        for (int size : SIZES) {
            WideMachine x = new WideMachine(16, size);
            for (int at : noAddressOf(size)) {
                check.isFalse("poke(" + at + ") of " + size, x.poke(at, 3));
            }
            for (int at = 0; at < size; at++) {
                check.same("no data word is another one: peek(" + at + ")", x.peek(at), 0);
            }
        }
    }

    private static void peek() {
        check.sentence("peek: A data word");
        WideMachine x = new WideMachine(16, 200);
        for (int at = 0; at < 200; at++) {
            x.poke(at, 1000 - 11 * at);
        }
        for (int at = 0; at < 200; at++) {
            check.same("peek(" + at + ")", x.peek(at), 1000 - 11 * at);
        }
    }

    private static void peekBeyond() {
        check.sentence("peek: 0 if there is no such address");
        for (int size : SIZES) {
            WideMachine x = new WideMachine(16, size);
            for (int at = 0; at < size; at++) {
                x.poke(at, 5);
            }
            for (int at : noAddressOf(size)) {
                check.same("peek(" + at + ") of " + size, x.peek(at), 0);
            }
        }
    }

    private static void set() {
        check.sentence("A register is another int at once: true (each of them)");
        WideMachine x = new WideMachine(16, 16);
        for (int register = 0; register < 32; register++) {
            for (int v : INTS) {
                check.isTrue("set(" + register + ", " + v + ")", x.set(register, v));
                check.same("get(" + register + ")", x.get(register), v);
            }
        }
    }

    private static void setAtOnce() {
        check.sentence("A register is another int at once: true (at once)");
        WideMachine x = new WideMachine(16, 16);
        x.word(0, Asm.opN(Asm.L0, Asm.ADD, 3, 4, 1));
        x.word(1, Asm.opN(Asm.L0, Asm.ADD, 5, 3, 0));
        x.set(4, 20);
        check.same("no write is due of it", x.about(3), 0);
        x.run(1);
        check.isTrue("set(3) while a write into it is due", x.set(3, 9));
        check.same("it is that at once", x.get(3), 9);
        check.same("the write is due still", x.due(0, 1), 21);
        x.run(1);
        check.same("and lands over it", x.get(3), 21);
        x.word(2, Asm.halt(Asm.S0));
        x.run(1);
        check.isTrue("set(3) when halted", x.set(3, 8));
        check.same("it is that when halted", x.get(3), 8);
    }

    private static void setRefused() {
        check.sentence("set: false if there is none such");
        WideMachine x = new WideMachine(256, 256);
        for (int register : noAddressOf(32)) {
            check.isFalse("set(" + register + ")", x.set(register, 5));
        }
        for (int register = 0; register < 32; register++) {
            check.same("no register is another int: get(" + register + ")", x.get(register), 0);
        }
    }

    private static void get() {
        check.sentence("get: A register");
        WideMachine x = new WideMachine(16, 16);
        for (int register = 0; register < 32; register++) {
            x.set(register, 1000 - 77 * register);
        }
        for (int register = 0; register < 32; register++) {
            check.same("get(" + register + ")", x.get(register), 1000 - 77 * register);
        }
    }

    private static void getBeyond() {
        check.sentence("get: 0 if there is none such");
        WideMachine x = new WideMachine(256, 256);
        for (int register = 0; register < 32; register++) {
            x.set(register, 5);
        }
        for (int register : noAddressOf(32)) {
            check.same("get(" + register + ")", x.get(register), 0);
        }
    }
}
