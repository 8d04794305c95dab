/** Makes program words. A name with N at its end takes b as a number, one without as a register. */
final class Asm {
    static final int L0 = 0;
    static final int S0 = 1;
    static final int M0 = 2;
    static final int D0 = 3;
    static final int L1 = 4;
    static final int S1 = 5;
    static final int M1 = 6;
    static final int D1 = 7;

    static final int ADD = 0;
    static final int SUB = 1;
    static final int AND = 2;
    static final int OR = 3;
    static final int XOR = 4;
    static final int EQ = 5;
    static final int GT = 6;
    static final int LT = 7;
    static final int SADD = 8;
    static final int NORM = 9;
    static final int SHL = 2;
    static final int SHR = 3;
    static final int SHRU = 4;
    static final int CONST = 5;
    static final int HIGH = 6;
    static final int GO = 7;
    static final int GO_TO_B = 8;
    static final int BACK = 9;
    static final int WAIT = 10;
    static final int HALT = 11;
    static final int MPY = 0;
    static final int MPYH = 1;
    static final int MPYU = 2;
    static final int SMPY = 3;
    static final int LOAD = 2;
    static final int STORE = 3;

    private Asm() {
    }

    static int op(int unit, int operation, int d, int a, int b) {
        return unit << 5 | operation << 8 | d << 12 | a << 17 | b << 22;
    }

    static int opN(int unit, int operation, int d, int a, int number) {
        return op(unit, operation, d, a, number & 31) | 1 << 27;
    }

    static int wide(int unit, int operation, int d, int number) {
        return unit << 5 | operation << 8 | d << 12 | number << 17;
    }

    static int go(int unit, int target) {
        return unit << 5 | GO << 8 | target << 12;
    }

    static int goTo(int unit, int b) {
        return op(unit, GO_TO_B, 0, 0, b);
    }

    static int goToN(int unit, int number) {
        return opN(unit, GO_TO_B, 0, 0, number);
    }

    static int back(int unit) {
        return op(unit, BACK, 0, 0, 0);
    }

    static int waitN(int unit, int number) {
        return opN(unit, WAIT, 0, 0, number);
    }

    static int halt(int unit) {
        return op(unit, HALT, 0, 0, 0);
    }

    /** A word that does nothing that is seen. */
    static int idle() {
        return waitN(S0, 0);
    }

    static int and(int w) {
        return w | 1;
    }

    static int ifNotZero(int condition, int w) {
        return w | condition << 1;
    }

    static int ifZero(int condition, int w) {
        return w | condition << 1 | 1 << 4;
    }

    /** Puts words from an address on, all of one packet. */
    static void packet(WideMachine x, int address, int... words) {
        for (int i = 0; i < words.length; i++) {
            x.word(address + i, i + 1 < words.length ? and(words[i]) : words[i]);
        }
    }

    /** Puts words from an address on, each a packet of its own. */
    static void packets(WideMachine x, int address, int... words) {
        for (int i = 0; i < words.length; i++) {
            x.word(address + i, words[i]);
        }
    }

    /** Puts packets that do nothing at all addresses from one on to before another. */
    static void idles(WideMachine x, int from, int to) {
        for (int i = from; i < to; i++) {
            x.word(i, idle());
        }
    }
}
