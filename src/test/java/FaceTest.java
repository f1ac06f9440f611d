import java.lang.reflect.Constructor;
import java.lang.reflect.Field;
import java.lang.reflect.Method;
import java.lang.reflect.Modifier;
import java.util.Arrays;
import java.util.Set;
import java.util.TreeSet;

/** The class shows the members of the document, and no others. */
public final class FaceTest {
    private static final Set<String> DUE = new TreeSet<>(Arrays.asList(
        "new(int)", "owe(int,int,int)", "change(int,int)", "pay(int)", "exclude(int,int)", "clear()",
        "carryOut(int)", "debts()", "amount(int)", "balance(int)", "outstanding()", "best()",
        "bestCode()", "isClearing(int)", "weight(int)", "most(int)", "possible()", "least()"));

    public static void main(String[] args) {
        Set<String> shown = new TreeSet<>();
        Class<?> type = ObligationNetting.class;
        boolean right = Modifier.isPublic(type.getModifiers()) && Modifier.isFinal(type.getModifiers());
        for (Constructor<?> made : type.getDeclaredConstructors()) {
            if (!Modifier.isPrivate(made.getModifiers())) {
                shown.add("new" + parameters(made.getParameterTypes()));
            }
        }
        for (Method method : type.getDeclaredMethods()) {
            if (!Modifier.isPrivate(method.getModifiers())) {
                shown.add(method.getName() + parameters(method.getParameterTypes()));
                right &= Modifier.isPublic(method.getModifiers());
                right &= !Modifier.isStatic(method.getModifiers());
                right &= method.getReturnType() == int.class;
            }
        }
        for (Field field : type.getDeclaredFields()) {
            if (!Modifier.isPrivate(field.getModifiers())) {
                shown.add("field " + field.getName());
            }
        }
        if (!right || !shown.equals(DUE)) {
            System.out.println("shown: " + shown);
            System.out.println("due:   " + DUE);
            System.exit(1);
        }
        System.out.println("the face is as due");
    }

    private static String parameters(Class<?>[] types) {
        StringBuilder text = new StringBuilder("(");
        for (Class<?> type : types) {
            text.append(text.length() > 1 ? "," : "").append(type.getName());
        }
        return text.append(")").toString();
    }
}
