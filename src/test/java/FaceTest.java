import java.lang.reflect.Constructor;
import java.lang.reflect.Field;
import java.lang.reflect.Method;
import java.lang.reflect.Modifier;
import java.util.ArrayList;
import java.util.Arrays;
import java.util.Collections;
import java.util.List;

/** The public face is the document's, and nothing beside it (LANGUAGE.md, rules 1 and 5). */
public final class FaceTest {
    private static final String[] METHODS = {
        "boolean word(int,int)", "boolean poke(int,int)", "int peek(int)", "boolean set(int,int)",
        "int get(int)", "int run(int)", "int about(int)", "int due(int,int)", "boolean raise(int)",
        "void letIn(boolean)", "boolean start(int)",
    };

    public static void main(String[] args) {
        Check check = new Check();
        check.same("NONE", WideMachine.NONE, -1);
        check.isTrue("the class is final", Modifier.isFinal(WideMachine.class.getModifiers()));
        constructors(check);
        methods(check);
        fields(check);
        check.end();
    }

    private static void constructors(Check check) {
        Constructor<?>[] all = WideMachine.class.getDeclaredConstructors();
        check.same("how many constructors", all.length, 1);
        check.isTrue("it is WideMachine(int, int)",
            Arrays.equals(all[0].getParameterTypes(), new Class<?>[] {int.class, int.class}));
        check.isTrue("it is public", Modifier.isPublic(all[0].getModifiers()));
    }

    private static void methods(Check check) {
        List<String> faced = new ArrayList<>();
        List<String> hidden = new ArrayList<>();
        for (Method m : WideMachine.class.getDeclaredMethods()) {
            boolean isPrivate = Modifier.isPrivate(m.getModifiers());
            (isPrivate ? hidden : faced).add(isPrivate ? m.getName() : textOf(m));
        }
        List<String> due = new ArrayList<>(Arrays.asList(METHODS));
        Collections.sort(due);
        Collections.sort(faced);
        check.isTrue("the methods are those of the face: " + faced, faced.equals(due));
        for (String method : METHODS) {
            String name = method.substring(method.indexOf(' ') + 1, method.indexOf('('));
            check.isFalse("a private method is named " + name, hidden.contains(name));
        }
    }

    private static String textOf(Method m) {
        StringBuilder text = new StringBuilder(m.getReturnType() + " " + m.getName() + "(");
        for (int i = 0; i < m.getParameterCount(); i++) {
            text.append(i == 0 ? "" : ",").append(m.getParameterTypes()[i]);
        }
        return text + ")";
    }

    private static void fields(Check check) {
        for (Field f : WideMachine.class.getDeclaredFields()) {
            boolean isFace = f.getName().equals("NONE");
            int modifiers = f.getModifiers();
            check.isTrue(f.getName() + " is private or of the face",
                isFace ? Modifier.isPublic(modifiers) : Modifier.isPrivate(modifiers));
            check.isTrue(f.getName() + " is no static that changes",
                !Modifier.isStatic(modifiers) || Modifier.isFinal(modifiers));
        }
    }
}
