import java.lang.reflect.Constructor;
import java.lang.reflect.Field;
import java.lang.reflect.Method;
import java.lang.reflect.Modifier;
import java.util.Arrays;
import java.util.TreeSet;

/** The public face is the document's, with no other member that can be seen from outside. */
public final class FaceTest {
    private static final String[] FACE = {
        "int BAD", "int FULL", "int NO", "FederationWire()",
        "int ask(int,boolean)", "int bind(int,int)", "int count(int)", "int down(int)",
        "int estimate(int)", "int fact(int,int)", "int joined(int,int,int)", "int line(int,int)",
        "int loop(int,int)", "int octet(int,byte)", "int out(int)", "int row(int,int,int)",
        "int setting(int,int)", "int tick(int)", "int told(int,int)", "int up(int)",
    };

    public static void main(String[] args) {
        Check check = new Check("The public face");
        TreeSet<String> seen = new TreeSet<>();
        for (Field field : FederationWire.class.getDeclaredFields()) {
            if (!Modifier.isPrivate(field.getModifiers())) {
                seen.add(field.getType() + " " + field.getName());
            }
        }
        for (Constructor<?> made : FederationWire.class.getDeclaredConstructors()) {
            seen.add("FederationWire(" + types(made.getParameterTypes()) + ")");
        }
        for (Method method : FederationWire.class.getDeclaredMethods()) {
            if (!Modifier.isPrivate(method.getModifiers())) {
                seen.add(method.getReturnType() + " " + method.getName()
                        + "(" + types(method.getParameterTypes()) + ")");
            }
        }
        check.due("the face", seen.toString(), new TreeSet<>(Arrays.asList(FACE)).toString());
        check.due("BAD", FederationWire.BAD, -1);
        check.due("NO", FederationWire.NO, -2);
        check.due("FULL", FederationWire.FULL, -3);
        int modifiers = FederationWire.class.getModifiers();
        check.due("public", Modifier.isPublic(modifiers) ? 1 : 0, 1);
        check.due("final", Modifier.isFinal(modifiers) ? 1 : 0, 1);
        check.end();
    }

    private static String types(Class<?>[] all) {
        StringBuilder text = new StringBuilder();
        for (Class<?> type : all) {
            text.append(text.length() == 0 ? "" : ",").append(type.getSimpleName());
        }
        return text.toString();
    }
}
