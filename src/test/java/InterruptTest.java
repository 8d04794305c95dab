/** Promises 10 and 11 and the cycle's step (4), sentence by sentence: lines, interrupts, BACK, the RETURN. */
public final class InterruptTest {
    private static final Check check = new Check();

    public static void main(String[] args) {
        raise();
        raiseNoSuchLine();
        raiseAgain();
        raiseAnew();
        letIn();
        letInChangesNothingElse();
        onlyIfLetIn();
        onlyIfOneIsRaised();
        lowestLine();
        noBranchUnderWay();
        whenTheBranchGoes();
        lineIsRaisedNoMore();
        noInterruptIsLetIn();
        returnIsTheAddress();
        addressOfTheLine();
        addressBeyondTheProgram();
        notWhileItWaits();
        backToTheReturn();
        returnAsItIsNow();
        backLetsIn();
        goDoesNotLetIn();
        backHasNoB();
        check.end();
    }

    private static WideMachine idling(int words) {
        WideMachine x = new WideMachine(words, 16);
        Asm.idles(x, 0, words);
        return x;
    }

    private static void raise() {
        check.sentence("raise: Line 0 .. 3 is raised: true");
        WideMachine x = idling(64);
        int lines = 0;
        for (int line : new int[] {2, 0, 3, 1}) {
            check.isTrue("raise(" + line + ")", x.raise(line));
            lines |= 1 << line;
            check.same("the lines", x.about(8), lines);
        }
        WideMachine halted = idling(16);
        halted.word(0, Asm.halt(Asm.S0));
        halted.run(1);
        check.isTrue("raise(3) when halted", halted.raise(3));
        check.same("the lines when halted", halted.about(8), 8);
    }

    private static void raiseNoSuchLine() {
        check.sentence("raise: false if there is none such");
        WideMachine x = idling(64);
        int[] wrong = {-1, 4, 5, 8, 31, 32, 33, 35, 64, -28, -32, Integer.MIN_VALUE, Integer.MAX_VALUE};
        for (int line : wrong) {
            check.isFalse("raise(" + line + ")", x.raise(line));
            check.same("no line is raised", x.about(8), 0);
        }
    }

    private static void raiseAgain() {
        check.sentence("raise: false if there is none such, or it is");
        for (int line = 0; line < 4; line++) {
            WideMachine x = idling(64);
            x.raise(line);
            check.isFalse("raise(" + line + ") again", x.raise(line));
            check.same("it is raised still", x.about(8), 1 << line);
            x.run(3);
            check.isFalse("raise(" + line + ") cycles later", x.raise(line));
            check.isTrue("raise of another one", x.raise(3 - line));
        }
    }

    private static void raiseAnew() {
        check.sentence("raise: Line 0 .. 3 is raised: true (one that is raised no more)");
        for (int line = 0; line < 4; line++) {
            WideMachine x = idling(64);
            x.raise(line);
            x.letIn(true);
            x.run(1);
            check.isTrue("raise(" + line + ") after its interrupt", x.raise(line));
            check.same("it is raised", x.about(8), 1 << line);
        }
    }

    private static void letIn() {
        check.sentence("letIn: Interrupts are let in, or not");
        WideMachine x = idling(64);
        boolean[] calls = {true, true, false, false, true};
        for (boolean is : calls) {
            x.letIn(is);
            check.same("letIn(" + is + ")", x.about(7), is ? 1 : 0);
        }
        x.letIn(false);
        x.raise(2);
        x.run(2);
        check.same("not let in", x.about(1), 2);
        x.letIn(true);
        x.run(1);
        check.same("let in", x.about(1), 25);
        x.word(30, Asm.halt(Asm.S0));
        x.start(30);
        x.run(1);
        x.letIn(true);
        check.same("let in when halted", x.about(7), 1);
        x.letIn(false);
        check.same("not let in when halted", x.about(7), 0);
    }

    private static void letInChangesNothingElse() {
        check.sentence("letIn: Interrupts are let in, or not (and nothing else is another one)");
        WideMachine x = idling(64);
        x.raise(1);
        x.letIn(true);
        int[] due = {0, 0, 0, 0, 0, 0, 0, 1, 2};
        for (int what = 0; what < due.length; what++) {
            check.same("about(" + what + ")", x.about(what), due[what]);
        }
    }

    private static void onlyIfLetIn() {
        check.sentence("(4) If interrupts are let in");
        WideMachine x = idling(64);
        for (int line = 0; line < 4; line++) {
            x.raise(line);
        }
        check.same("not let in: run", x.run(5), 5);
        check.same("not let in: all lines stay", x.about(8), 15);
        check.same("not let in: the address goes on", x.about(1), 5);
        check.same("not let in: the RETURN stays", x.about(6), 0);
    }

    private static void onlyIfOneIsRaised() {
        check.sentence("(4) If interrupts are let in, one is raised");
        WideMachine x = idling(64);
        x.letIn(true);
        x.run(3);
        check.same("none is raised: the address goes on", x.about(1), 3);
        check.same("none is raised: they are let in still", x.about(7), 1);
        check.same("none is raised: the RETURN stays", x.about(6), 0);
        x.raise(1);
        x.run(1);
        check.same("one is raised", x.about(1), 17);
    }

    private static void lowestLine() {
        check.sentence("(the lowest line of them is it)");
        for (int lines = 1; lines < 16; lines++) {
            WideMachine x = idling(64);
            for (int line = 3; line >= 0; line--) {
                if ((lines >> line & 1) != 0) {
                    x.raise(line);
                }
            }
            for (int left = lines; left != 0; left &= left - 1) {
                int lowest = Integer.numberOfTrailingZeros(left);
                x.letIn(true);
                x.run(1);
                check.same("lines " + left + ": where it goes", x.about(1), 8 * lowest + 9);
                check.same("lines " + left + ": what is left", x.about(8), left & left - 1);
            }
        }
    }

    private static void noBranchUnderWay() {
        check.sentence("no branch is under way");
        int[] branches = {Asm.go(Asm.S0, 40), Asm.goTo(Asm.S1, 5), Asm.back(Asm.S0)};
        for (int w : branches) {
            WideMachine x = idling(64);
            x.set(5, 40);
            x.word(48, w);
            x.start(48);
            x.run(1);
            x.letIn(true);
            x.raise(0);
            for (int later = 1; later <= 5; later++) {
                x.run(1);
                check.same("the address goes on", x.about(1), 49 + later);
                check.same("the line stays", x.about(8), 1);
                check.same("they are let in still", x.about(7), 1);
            }
            x.run(1);
            check.same("then it is taken", x.about(1), 9);
        }
        WideMachine x = idling(64);
        x.word(48, Asm.go(Asm.S0, 40));
        x.word(50, Asm.go(Asm.S0, 24));
        x.start(48);
        x.run(3);
        x.letIn(true);
        x.raise(0);
        x.run(4);
        check.same("the first of two branches goes", x.about(1), 41);
        check.same("the second is under way, the line stays", x.about(8), 1);
        x.run(2);
        check.same("the second goes: taken", x.about(1), 9);
        check.same("the second goes: the RETURN", x.about(6), 24);
    }

    private static void whenTheBranchGoes() {
        check.sentence("no branch is under way (one that goes in this very cycle is no more)");
        WideMachine x = idling(64);
        x.word(0, Asm.go(Asm.S0, 40));
        x.run(6);
        x.letIn(true);
        x.raise(0);
        x.run(1);
        check.same("taken", x.about(1), 9);
        check.same("the RETURN is the branch's target", x.about(6), 40);
        WideMachine same = idling(64);
        same.word(0, Asm.go(Asm.S0, 40));
        same.letIn(true);
        same.raise(2);
        same.run(1);
        check.same("before a branch's own packet", same.about(1), 25);
        check.same("that packet is not done", same.about(4), 0);
    }

    private static void lineIsRaisedNoMore() {
        check.sentence("the line is raised no more");
        WideMachine x = idling(64);
        x.raise(1);
        x.raise(3);
        x.letIn(true);
        x.run(1);
        check.same("the others stay", x.about(8), 8);
        x.letIn(true);
        x.run(1);
        check.same("none stays", x.about(8), 0);
        x.letIn(true);
        x.run(1);
        check.same("and none is taken twice", x.about(1), 34);
    }

    private static void noInterruptIsLetIn() {
        check.sentence("no interrupt is let in");
        for (int line = 0; line < 4; line++) {
            WideMachine x = idling(64);
            x.raise(line);
            x.letIn(true);
            x.run(1);
            check.same("line " + line + ": let in no more", x.about(7), 0);
            x.raise(0);
            x.run(2);
            check.same("line " + line + ": so the next one waits", x.about(1), 8 * line + 11);
        }
    }

    private static void returnIsTheAddress() {
        check.sentence("the RETURN is the address");
        for (int from : new int[] {0, 1, 7, 8, 50, 63}) {
            WideMachine x = idling(64);
            x.start(from);
            x.raise(1);
            x.letIn(true);
            x.run(1);
            check.same("from " + from, x.about(6), from);
            x.run(3);
            check.same("from " + from + ": it stays", x.about(6), from);
        }
        WideMachine end = idling(16);
        end.start(15);
        end.run(1);
        end.letIn(true);
        end.raise(0);
        end.run(1);
        check.same("from behind the program", end.about(6), 16);
        check.same("from behind the program: state", end.about(0), 0);
        end.word(9, Asm.back(Asm.S0));
        end.run(7);
        check.same("back behind the program: state", end.about(0), 8);
        check.same("back behind the program: address", end.about(1), 16);
    }

    private static void addressOfTheLine() {
        check.sentence("the address 8 * line + 8");
        for (int line = 0; line < 4; line++) {
            WideMachine x = idling(64);
            x.start(50);
            x.raise(line);
            x.letIn(true);
            x.word(8 * line + 8, Asm.wide(Asm.S0, Asm.CONST, 4, 400 + line));
            check.same("line " + line + ": run", x.run(1), 1);
            check.same("line " + line + ": its first packet is done", x.due(0, 1), 400 + line);
            check.same("line " + line + ": the address behind it", x.about(1), 8 * line + 9);
            check.same("line " + line + ": one cycle", x.about(2), 1);
        }
    }

    private static void addressBeyondTheProgram() {
        check.sentence("the address 8 * line + 8 (beyond the program)");
        int[][] pairs = {{16, 1}, {16, 2}, {16, 3}, {24, 2}, {32, 3}};
        for (int[] pair : pairs) {
            WideMachine x = idling(pair[0]);
            x.start(5);
            x.letIn(true);
            x.raise(pair[1]);
            check.same("run", x.run(10), 1);
            int[] due = {8, 8 * pair[1] + 8, 1, 0, 0, 0, 5, 0, 0};
            for (int what = 0; what < due.length; what++) {
                check.same(pair[0] + " words, line " + pair[1] + ": about(" + what + ")", x.about(what), due[what]);
            }
        }
        WideMachine fits = idling(33);
        fits.letIn(true);
        fits.raise(3);
        fits.run(1);
        check.same("33 words, line 3", fits.about(0), 0);
    }

    private static void notWhileItWaits() {
        check.sentence("(3) If the machine waits, it waits one cycle less, and that is all (no interrupt)");
        WideMachine x = idling(64);
        x.word(0, Asm.waitN(Asm.S0, 3));
        x.run(1);
        x.letIn(true);
        x.raise(0);
        x.run(3);
        check.same("the address stays", x.about(1), 1);
        check.same("the line stays", x.about(8), 1);
        check.same("they are let in still", x.about(7), 1);
        x.run(1);
        check.same("then it is taken", x.about(1), 9);
        check.same("the RETURN", x.about(6), 1);
    }

    private static void backToTheReturn() {
        check.sentence("BACK to the RETURN");
        for (int unit = Asm.S0; unit <= Asm.S1; unit += 4) {
            WideMachine x = idling(64);
            x.word(8, Asm.back(unit));
            x.start(30);
            x.letIn(true);
            x.raise(0);
            x.run(6);
            check.same("five more packets", x.about(1), 14);
            x.run(1);
            check.same("there", x.about(1), 31);
            check.same("the RETURN stays", x.about(6), 30);
        }
    }

    private static void returnAsItIsNow() {
        check.sentence("BACK to the RETURN as it is now");
        WideMachine x = idling(64);
        // No interrupt is taken while BACK is under way, so only one of BACK's own cycle can come between.
        x.word(8, Asm.back(Asm.S0));
        x.start(30);
        x.letIn(true);
        x.raise(0);
        x.run(1);
        check.same("the RETURN of this cycle's interrupt", x.about(6), 30);
        x.raise(2);
        x.run(6);
        check.same("the next interrupt when BACK goes", x.about(1), 25);
        check.same("its RETURN is where BACK went", x.about(6), 30);
        x.word(40, Asm.back(Asm.S0));
        x.start(40);
        x.run(7);
        check.same("BACK once more", x.about(1), 31);
    }

    private static void backLetsIn() {
        check.sentence("and interrupts are let in from now on");
        for (int unit = Asm.S0; unit <= Asm.S1; unit += 4) {
            WideMachine x = idling(64);
            x.word(40, Asm.back(unit));
            x.start(40);
            x.run(1);
            check.same("at once", x.about(7), 1);
            x.letIn(false);
            x.run(6);
            check.same("not once more when it goes", x.about(7), 0);
            x.word(40, Asm.ifNotZero(1, Asm.back(unit)));
            x.start(40);
            x.run(1);
            check.same("not by a BACK that is not done", x.about(7), 0);
        }
    }

    private static void goDoesNotLetIn() {
        check.sentence("and interrupts are let in from now on (by BACK, not by GO)");
        for (int w : new int[] {Asm.go(Asm.S0, 9), Asm.goToN(Asm.S1, 9)}) {
            WideMachine x = idling(64);
            x.word(0, w);
            x.run(1);
            check.same("under way", x.about(7), 0);
            x.run(7);
            check.same("there", x.about(7), 0);
        }
    }

    private static void backHasNoB() {
        check.sentence("where the operation has b: not with CONST, HIGH, the first GO, BACK, HALT (BACK)");
        for (int b = 1; b < 32; b++) {
            WideMachine x = idling(64);
            for (int register = 0; register < 32; register++) {
                x.set(register, 40 + register);
            }
            x.word(40, Asm.op(Asm.S0, Asm.BACK, b, b, b) | b % 2 << 27);
            x.start(40);
            x.run(1);
            check.same("b " + b + ": it does not wait", x.about(5), 0);
            check.same("b " + b + ": one branch", x.about(4), 1);
            x.run(6);
            check.same("b " + b + ": it goes to the RETURN", x.about(1), 1);
        }
    }
}
