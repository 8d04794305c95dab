/** Promises 10 and 11, and the Terms' interrupts: raise, letIn, BACK and the RETURN. */
public final class InterruptTest {
    private static final Check check = new Check();

    public static void main(String[] args) {
        raise();
        letIn();
        taken();
        lowestLine();
        notWhileABranchIsUnderWay();
        notWhileItWaits();
        back();
        backToTheReturnAsItIs();
        beyondTheProgram();
        inAStoppedCycle();
        check.end();
    }

    private static WideMachine idling(int words) {
        WideMachine x = new WideMachine(words, 16);
        Asm.idles(x, 0, words);
        return x;
    }

    private static void raise() {
        WideMachine x = idling(64);
        int lines = 0;
        int[] order = {2, 0, 3, 1};
        for (int line : order) {
            check.isTrue("raise(" + line + ")", x.raise(line));
            lines |= 1 << line;
            check.same("the lines", x.about(8), lines);
            check.isFalse("raise(" + line + ") again", x.raise(line));
            check.same("the lines again", x.about(8), lines);
        }
        int[] wrong = {-1, 4, 5, 31, 32, 33, 64, -32, Integer.MIN_VALUE, Integer.MAX_VALUE};
        WideMachine fresh = idling(64);
        for (int line : wrong) {
            check.isFalse("raise(" + line + ")", fresh.raise(line));
        }
        check.same("no line", fresh.about(8), 0);
        check.same("nothing is let in", x.run(3), 3);
        check.same("so all lines stay", x.about(8), 15);
        check.same("and the address goes on", x.about(1), 3);
    }

    private static void letIn() {
        WideMachine x = idling(64);
        check.same("at first", x.about(7), 0);
        x.letIn(true);
        check.same("let in", x.about(7), 1);
        x.letIn(true);
        check.same("let in again", x.about(7), 1);
        x.letIn(false);
        check.same("not let in", x.about(7), 0);
        x.raise(2);
        x.run(2);
        check.same("no interrupt", x.about(1), 2);
        x.letIn(true);
        x.run(1);
        check.same("an interrupt", x.about(1), 25);
        check.same("the RETURN", x.about(6), 2);
        x.letIn(true);
        x.run(1);
        check.same("let in with no line raised", x.about(7), 1);
        check.same("it goes on", x.about(1), 26);
        x.word(30, Asm.halt(Asm.S0));
        x.start(30);
        x.run(1);
        x.letIn(false);
        check.same("not let in when halted", x.about(7), 0);
        check.isTrue("raised when halted", x.raise(3));
    }

    private static void taken() {
        for (int line = 0; line < 4; line++) {
            WideMachine x = idling(64);
            x.start(50);
            x.raise(line);
            x.letIn(true);
            check.same("line " + line + ": run", x.run(1), 1);
            check.same("line " + line + ": the first packet is done", x.about(1), 8 * line + 9);
            check.same("line " + line + ": the RETURN", x.about(6), 50);
            check.same("line " + line + ": none is let in", x.about(7), 0);
            check.same("line " + line + ": raised no more", x.about(8), 0);
            check.same("line " + line + ": one cycle", x.about(2), 1);
            check.isTrue("line " + line + ": raised anew", x.raise(line));
            x.run(1);
            check.same("line " + line + ": it stays", x.about(8), 1 << line);
            check.same("line " + line + ": the RETURN stays", x.about(6), 50);
        }
    }

    private static void lowestLine() {
        WideMachine x = idling(64);
        x.raise(3);
        x.raise(1);
        x.raise(2);
        int[] left = {0b1100, 0b1000, 0};
        int[] address = {17, 25, 33};
        int[] back = {0, 17, 25};
        for (int i = 0; i < 3; i++) {
            x.letIn(true);
            x.run(1);
            check.same("the lines that are left", x.about(8), left[i]);
            check.same("where it goes", x.about(1), address[i]);
            check.same("where it comes from", x.about(6), back[i]);
        }
    }

    private static void notWhileABranchIsUnderWay() {
        WideMachine x = idling(64);
        x.word(0, Asm.go(Asm.S0, 40));
        x.run(1);
        x.letIn(true);
        x.raise(0);
        x.run(5);
        check.same("five packets behind the branch", x.about(1), 6);
        check.same("the line waits", x.about(8), 1);
        x.run(1);
        check.same("taken when the branch goes", x.about(1), 9);
        check.same("the RETURN is the branch's target", x.about(6), 40);
    }

    private static void notWhileItWaits() {
        WideMachine x = idling(64);
        x.word(0, Asm.waitN(Asm.S0, 3));
        x.run(1);
        x.letIn(true);
        x.raise(0);
        x.run(3);
        check.same("it waits", x.about(1), 1);
        check.same("the line waits too", x.about(8), 1);
        check.same("and is let in", x.about(7), 1);
        x.run(1);
        check.same("then it is taken", x.about(1), 9);
        check.same("the RETURN", x.about(6), 1);
    }

    private static void back() {
        for (int unit = Asm.S0; unit <= Asm.S1; unit += 4) {
            WideMachine x = idling(64);
            x.word(8, Asm.back(unit));
            x.start(30);
            x.letIn(true);
            x.raise(0);
            x.run(1);
            check.same("BACK: interrupts are let in at once", x.about(7), 1);
            check.same("BACK: under way", x.about(4), 1);
            x.run(5);
            check.same("BACK: five more packets", x.about(1), 14);
            x.run(1);
            check.same("BACK: there", x.about(1), 31);
        }
        WideMachine x = idling(64);
        x.word(0, Asm.ifNotZero(1, Asm.back(Asm.S0)));
        x.word(1, Asm.go(Asm.S0, 9));
        x.run(1);
        check.same("a BACK that is not done lets none in", x.about(7), 0);
        check.same("and does not go", x.about(4), 0);
        x.run(1);
        check.same("a GO lets none in", x.about(7), 0);
    }

    /** A RETURN that changes while a BACK is under way does not change where that goes. */
    private static void backToTheReturnAsItIs() {
        WideMachine x = idling(64);
        x.word(8, Asm.back(Asm.S0));
        x.start(30);
        x.letIn(true);
        x.raise(0);
        x.run(1);
        x.raise(2);
        x.run(6);
        check.same("the next interrupt when BACK goes", x.about(1), 25);
        check.same("the RETURN of it", x.about(6), 30);
        x.word(40, Asm.back(Asm.S0));
        x.start(40);
        x.run(7);
        check.same("BACK once more", x.about(1), 31);
        WideMachine fresh = idling(64);
        fresh.start(40);
        fresh.word(40, Asm.back(Asm.S1));
        fresh.run(7);
        check.same("BACK without an interrupt goes to 0", fresh.about(1), 1);
        twoBacks();
    }

    private static void twoBacks() {
        WideMachine x = idling(64);
        Asm.packet(x, 0, Asm.back(Asm.S0), Asm.back(Asm.S1));
        check.same("two BACKs: run", x.run(10), 7);
        check.same("two BACKs: state", x.about(0), 6);
        check.same("two BACKs: let in", x.about(7), 1);
    }

    private static void beyondTheProgram() {
        WideMachine x = idling(16);
        x.start(5);
        x.letIn(true);
        x.raise(1);
        check.same("an interrupt beyond the program: run", x.run(10), 1);
        check.same("an interrupt beyond the program: state", x.about(0), 8);
        check.same("an interrupt beyond the program: address", x.about(1), 16);
        check.same("an interrupt beyond the program: RETURN", x.about(6), 5);
        check.same("an interrupt beyond the program: none is let in", x.about(7), 0);
        check.same("an interrupt beyond the program: line", x.about(8), 0);
        WideMachine end = idling(16);
        end.start(15);
        end.run(1);
        end.letIn(true);
        end.raise(0);
        end.run(1);
        check.same("from behind the program: RETURN", end.about(6), 16);
        check.same("from behind the program: state", end.about(0), 0);
        end.word(9, Asm.back(Asm.S0));
        end.run(7);
        check.same("back behind the program: state", end.about(0), 8);
        check.same("back behind the program: address", end.about(1), 16);
    }

    private static void inAStoppedCycle() {
        WideMachine x = idling(64);
        Asm.packet(x, 0, Asm.opN(Asm.L0, Asm.ADD, 1, 1, 1), Asm.opN(Asm.D0, Asm.ADD, 1, 1, 1));
        x.run(1);
        x.letIn(true);
        x.raise(0);
        x.run(1);
        check.same("writes clash: state", x.about(0), 5);
        check.same("writes clash: no interrupt is taken", x.about(8), 1);
        check.same("writes clash: let in", x.about(7), 1);
        check.same("writes clash: address", x.about(1), 2);
    }
}
