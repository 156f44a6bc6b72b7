import java.lang.reflect.Constructor;
import java.lang.reflect.Field;
import java.lang.reflect.Method;
import java.lang.reflect.Modifier;
import java.util.Set;
import java.util.TreeSet;

/** The class shows what the document's face lists, and nothing else. */
public final class FaceTest {
    private static final String[] FACE = {
        "BAD_WIDTH = -1", "BAD_WISH = -2", "BAD_WEIGHT = -3", "BAD_CELL = -4", "FULL = -5", "NONE = -6",
        "new(int)",
        "int append(int,int,int)", "int move(int,int)", "int reweigh(int,int)", "int exchange(int)", "int drop()",
        "int cost()", "int costOf(int)", "int leftmost(int)", "int costAt(int,int)", "int room()", "int content()",
    };

    public static void main(String[] args) throws IllegalAccessException {
        Set<String> want = new TreeSet<>(Set.of(FACE));
        Set<String> got = new TreeSet<>();
        for (Field field : RowLegaliser.class.getDeclaredFields()) {
            if (!Modifier.isPrivate(field.getModifiers())) {
                got.add(field.getName() + " = " + field.get(null));
            }
        }
        for (Constructor<?> constructor : RowLegaliser.class.getDeclaredConstructors()) {
            got.add("new" + parameters(constructor.getParameterTypes()));
        }
        Set<String> publicNames = new TreeSet<>();
        for (Method method : RowLegaliser.class.getDeclaredMethods()) {
            if (!Modifier.isPrivate(method.getModifiers())) {
                publicNames.add(method.getName());
                got.add(method.getReturnType() + " " + method.getName() + parameters(method.getParameterTypes()));
            }
        }
        boolean right = got.equals(want);
        if (!right) {
            System.out.println("the face is " + got + ", due is " + want);
        }
        for (Method method : RowLegaliser.class.getDeclaredMethods()) {
            if (Modifier.isPrivate(method.getModifiers()) && publicNames.contains(method.getName())) {
                right = false;
                System.out.println("a private method bears a public name: " + method.getName());
            }
        }
        System.out.println(right ? "the face is as due" : "the face is not as due");
        if (!right) {
            System.exit(1);
        }
    }

    private static String parameters(Class<?>[] types) {
        StringBuilder text = new StringBuilder("(");
        for (Class<?> type : types) {
            text.append(text.length() > 1 ? "," : "").append(type);
        }
        return text.append(")").toString();
    }
}
