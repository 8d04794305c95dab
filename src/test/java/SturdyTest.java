/** LANGUAGE.md, rules 6 and 7: whatever the calls and the words, no call throws, and answers stay in bounds. */
public final class SturdyTest {
    private static final int MACHINES = 4000;
    // With the calls that look at the answers they stay below the document's 512.
    private static final int CALLS = 60;
    private static final int[] EDGES = {
        Integer.MIN_VALUE, Integer.MAX_VALUE, -1, 0, 1, 2, 3, 4, 8, 9, 15, 16, 31, 32, 255, 256, 2000, 2001,
    };
    private static final int[] OPERATIONS = {10, 12, 4, 4};

    private static final Check check = new Check();

    private long seed = 12345;
    private final int[] seen = new int[10];

    public static void main(String[] args) {
        new SturdyTest().all();
        check.end();
    }

    private void all() {
        for (int i = 0; i < MACHINES; i++) {
            WideMachine x = new WideMachine(argument(), argument());
            for (int at = 0; at < 64; at++) {
                x.word(at, word());
            }
            for (int call = 0; call < CALLS; call++) {
                call(x);
            }
            bounds(x);
        }
        for (int state = 0; state < seen.length; state++) {
            check.isTrue("state " + state + " was met", seen[state] > 0);
        }
    }

    /** The same numbers in every run: a plain linear row, of which the upper bits are used. */
    private int below(int bound) {
        seed = seed * 6364136223846793005L + 1442695040888963407L;
        return (int) ((seed >>> 33) % bound);
    }

    private int argument() {
        return below(3) == 0 ? EDGES[below(EDGES.length)] : below(64) - 4;
    }

    private int word() {
        if (below(60) == 0) {
            return below(1 << 30) * 5;
        }
        int unit = below(8);
        int base = unit < 4 ? 0 : 16;
        int operation = below(OPERATIONS[unit & 3]);
        if ((unit & 3) == 1 && operation == Asm.GO) {
            return Asm.go(unit, below(60));
        }
        int w = Asm.op(unit, operation, base + below(16), base + below(16), below(32));
        int condition = below(8) > 5 ? 1 + below(5) : 0;
        return w | below(2) << 27 | condition << 1 | (condition > 0 ? below(2) << 4 : 0) | (below(4) == 0 ? 1 : 0);
    }

    private void call(WideMachine x) {
        switch (below(12)) {
            case 0: x.word(argument(), word()); break;
            case 1: x.poke(argument(), argument()); break;
            case 2: x.peek(argument()); break;
            case 3: x.set(argument(), argument()); break;
            case 4: x.get(argument()); break;
            case 5: x.about(argument()); break;
            case 6: x.due(argument(), argument()); break;
            case 7: x.raise(argument()); break;
            case 8: x.letIn(below(2) == 0); break;
            case 9: x.start(argument()); break;
            default: run(x, argument()); break;
        }
    }

    private void run(WideMachine x, int n) {
        int before = x.about(2);
        int stateBefore = x.about(0);
        int done = x.run(n);
        if (n < 0 || n > 2000) {
            check.same("run(" + n + ")", done, WideMachine.NONE);
            return;
        }
        check.same("cycles of run(" + n + ")", x.about(2) - before, done);
        boolean isWhole = done == n || done < n && x.about(0) != 0;
        check.isTrue("run(" + n + ") goes on while the state is 0", stateBefore == 0 ? isWhole : done == 0);
        seen[x.about(0)]++;
    }

    private void bounds(WideMachine x) {
        check.isTrue("state", x.about(0) >= 0 && x.about(0) <= 9);
        check.isTrue("writes", x.about(3) >= 0 && x.about(3) <= 18);
        check.isTrue("branches", x.about(4) >= 0 && x.about(4) <= 12);
        check.isTrue("waits", x.about(5) >= 0 && x.about(5) <= 15);
        check.isTrue("lines", x.about(8) >= 0 && x.about(8) <= 15);
        for (int i = 0; i < x.about(3); i++) {
            check.isTrue("a register", x.due(i, 0) >= 0 && x.due(i, 0) <= 31);
            check.isTrue("a time", x.due(i, 2) >= (x.about(0) == 5 ? 0 : 1) && x.due(i, 2) <= 5);
        }
    }
}
