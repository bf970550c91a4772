import java.lang.reflect.Constructor;
import java.lang.reflect.Field;
import java.lang.reflect.Method;
import java.lang.reflect.Modifier;
import java.util.Set;
import java.util.TreeSet;

/** The class shows what the document's face has, and nothing else. */
public final class FaceTest {
    public static void main(String[] args) {
        Set<String> want = new TreeSet<>(Set.of(
                "BAD", "STATE", "NO", "FULL", "NONE", "new()",
                "int cube(int,int,int)", "int clear()", "int forget()", "int face(int,int)",
                "int across(int,int)", "long trees()", "int lay(int)", "int grow(int,int)",
                "int paper(int,int)", "int run(int)", "int told(int)", "int best(int,int)",
                "int shape(int,int,int)", "int size(int)", "int wraps(int)"));
        Set<String> got = shown();
        boolean right = got.equals(want) && Modifier.isFinal(NetSearch.class.getModifiers())
                && Modifier.isPublic(NetSearch.class.getModifiers());
        System.out.println(right ? "the face is as due" : "the face is " + got + ", due is " + want);
        if (!right) {
            System.exit(1);
        }
    }

    /** Every member that is not private, but for the classes inside. */
    private static Set<String> shown() {
        Set<String> got = new TreeSet<>();
        for (Field field : NetSearch.class.getDeclaredFields()) {
            if (!Modifier.isPrivate(field.getModifiers())) {
                got.add(field.getName());
            }
        }
        for (Constructor<?> made : NetSearch.class.getDeclaredConstructors()) {
            if (!Modifier.isPrivate(made.getModifiers())) {
                got.add("new(" + names(made.getParameterTypes()) + ")");
            }
        }
        for (Method method : NetSearch.class.getDeclaredMethods()) {
            if (!Modifier.isPrivate(method.getModifiers())) {
                got.add(method.getReturnType().getName() + " " + method.getName()
                        + "(" + names(method.getParameterTypes()) + ")");
            }
        }
        return got;
    }

    private static String names(Class<?>[] types) {
        StringBuilder text = new StringBuilder();
        for (Class<?> type : types) {
            text.append(text.length() == 0 ? "" : ",").append(type.getName());
        }
        return text.toString();
    }
}
