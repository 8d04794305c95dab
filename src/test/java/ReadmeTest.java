/** The example in README.md answers what stands there. */
public final class ReadmeTest {
    public static void main(String[] args) {
        Check check = new Check();
        WideMachine x = new WideMachine(32, 16);
        check.isTrue("word(0, 660769)", x.word(0, 660769));
        check.isTrue("word(1, -322144)", x.word(1, -322144));
        check.isTrue("word(2, 2848)", x.word(2, 2848));
        check.same("run(1)", x.run(1), 1);
        check.same("about(3)", x.about(3), 2);
        check.same("due(1, 1)", x.due(1, 1), -3);
        check.same("get(17)", x.get(17), 0);
        check.same("run(100)", x.run(100), 1);
        check.same("about(0)", x.about(0), 9);
        check.same("get(17)", x.get(17), -3);
        wordOfItsFields(check);
        check.end();
    }

    private static void wordOfItsFields(Check check) {
        check.same("the first word", 1 | 1 << 5 | 5 << 8 | 1 << 12 | 5 << 17, 660769);
        check.same("CONST 5", Asm.and(Asm.wide(Asm.S0, Asm.CONST, 1, 5)), 660769);
        check.same("CONST -3", Asm.wide(Asm.S1, Asm.CONST, 17, -3), -322144);
        check.same("HALT", Asm.halt(Asm.S0), 2848);
    }
}
