import java.lang.reflect.Constructor;
import java.lang.reflect.Field;
import java.lang.reflect.Method;
import java.lang.reflect.Modifier;
import java.util.Set;
import java.util.TreeSet;

/** The class shows what the document's chapter "The public face" lists, and nothing else. */
public final class FaceTest {
    private static final String[] FACE = {
        "public final class RowLegaliser",
        "public static final int BAD_WIDTH = -1",
        "public static final int BAD_WISH = -2",
        "public static final int BAD_WEIGHT = -3",
        "public static final int BAD_CELL = -4",
        "public static final int FULL = -5",
        "public static final int NONE = -6",
        "public RowLegaliser(int)",
        "public int append(int,int,int)",
        "public int move(int,int)",
        "public int reweigh(int,int)",
        "public int exchange(int)",
        "public int drop()",
        "public int cost()",
        "public int costOf(int)",
        "public int leftmost(int)",
        "public int costAt(int,int)",
        "public int room()",
        "public int content()",
    };

    public static void main(String[] args) throws IllegalAccessException {
        Set<String> want = new TreeSet<>(Set.of(FACE));
        Set<String> got = shown(RowLegaliser.class);
        Set<String> missing = new TreeSet<>(want);
        missing.removeAll(got);
        Set<String> tooMuch = new TreeSet<>(got);
        tooMuch.removeAll(want);
        Set<String> doubles = privateWithPublicName(RowLegaliser.class);
        tell("missing", missing);
        tell("too much", tooMuch);
        tell("private, with the name of a public one", doubles);
        boolean right = missing.isEmpty() && tooMuch.isEmpty() && doubles.isEmpty();
        System.out.println(right ? "the face is as due" : "the face is not as due");
        if (!right) {
            System.exit(1);
        }
    }

    private static void tell(String what, Set<String> members) {
        for (String member : members) {
            System.out.println(what + ": " + member);
        }
    }

    /** All that isn't private: what only the package sees is too much as well. */
    private static Set<String> shown(Class<?> type) throws IllegalAccessException {
        Set<String> face = new TreeSet<>();
        face.add(Modifier.toString(type.getModifiers()) + " class " + type.getName());
        for (Class<?> nested : type.getDeclaredClasses()) {
            face.add("nested " + nested.getName());
        }
        for (Field field : type.getDeclaredFields()) {
            if (Modifier.isPrivate(field.getModifiers())) {
                continue;
            }
            String value = Modifier.isStatic(field.getModifiers()) ? " = " + field.get(null) : "";
            face.add(Modifier.toString(field.getModifiers()) + " " + field.getType() + " " + field.getName() + value);
        }
        for (Constructor<?> constructor : type.getDeclaredConstructors()) {
            face.add(constructor.toString());
        }
        for (Method method : type.getDeclaredMethods()) {
            if (!Modifier.isPrivate(method.getModifiers())) {
                face.add(Modifier.toString(method.getModifiers()) + " " + method.getReturnType() + " "
                    + method.getName() + parameters(method.getParameterTypes()));
            }
        }
        return face;
    }

    private static Set<String> privateWithPublicName(Class<?> type) {
        Set<String> names = new TreeSet<>();
        for (Method method : type.getDeclaredMethods()) {
            for (Method other : type.getMethods()) {
                if (Modifier.isPrivate(method.getModifiers()) && method.getName().equals(other.getName())) {
                    names.add(method.getName());
                }
            }
        }
        return names;
    }

    private static String parameters(Class<?>[] types) {
        StringBuilder text = new StringBuilder("(");
        for (Class<?> type : types) {
            text.append(text.length() > 1 ? "," : "").append(type);
        }
        return text.append(")").toString();
    }
}
