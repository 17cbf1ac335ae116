import java.lang.reflect.Constructor;
import java.lang.reflect.Field;
import java.lang.reflect.Method;
import java.lang.reflect.Modifier;
import java.util.Arrays;
import java.util.List;
import java.util.Set;
import java.util.TreeSet;

/** The face is the document's, and LANGUAGE.md's rules 1, 5 and 11 hold as far as they can be seen from outside. */
public final class FaceTest {
    private static final List<String> FACE = List.of(
        "int NONE = -1", "int UNKNOWN = -2", "int OUTSIDE = -3", "int STALE = -4", "int GONE = -5", "int ROOM = -6",
        "OffsetRows(int)",
        "int arc(int, int)", "int take(int)", "int untake(int)", "int merge()", "int pack()", "int turned(int)",
        "int out(int, int) throws IndexOutOfBoundsException", "int in(int, int) throws IndexOutOfBoundsException",
        "int offset(int, boolean)", "int told(int, int)", "int degree(int, boolean)",
        "int live(int, boolean, int)", "int between(int, int)", "int near(int, int)", "long ways(int, int, int)",
        "int open(int, boolean)", "int next(int)", "int close(int)", "int give(boolean, int, int)", "int load(int)",
        "int about(int)");

    private static int wrong = 0;

    private static void fault(String text) {
        wrong++;
        System.out.println(text);
    }

    private static String types(Class<?>[] types) {
        StringBuilder text = new StringBuilder();
        for (Class<?> type : types) {
            text.append(text.length() == 0 ? "" : ", ").append(type.getSimpleName());
        }
        return text.toString();
    }

    private static String line(Method method) {
        String thrown = types(method.getExceptionTypes());
        return method.getReturnType().getSimpleName() + " " + method.getName()
            + "(" + types(method.getParameterTypes()) + ")" + (thrown.isEmpty() ? "" : " throws " + thrown);
    }

    private static Set<String> foundFace() throws IllegalAccessException {
        Set<String> found = new TreeSet<>();
        for (Field field : OffsetRows.class.getDeclaredFields()) {
            if (!Modifier.isPrivate(field.getModifiers())) {
                found.add(field.getType().getSimpleName() + " " + field.getName() + " = " + field.get(null));
            }
        }
        for (Constructor<?> made : OffsetRows.class.getDeclaredConstructors()) {
            found.add("OffsetRows(" + types(made.getParameterTypes()) + ")");
        }
        for (Method method : OffsetRows.class.getDeclaredMethods()) {
            if (!Modifier.isPrivate(method.getModifiers())) {
                found.add(line(method));
            }
        }
        return found;
    }

    private static void checkFace() throws IllegalAccessException {
        Set<String> due = new TreeSet<>(FACE);
        Set<String> found = foundFace();
        for (String member : due) {
            if (!found.contains(member)) {
                fault("the face lacks " + member);
            }
        }
        for (String member : found) {
            if (!due.contains(member)) {
                fault("the face has besides " + member);
            }
        }
        if (!Modifier.isFinal(OffsetRows.class.getModifiers()) || !Modifier.isPublic(OffsetRows.class.getModifiers())) {
            fault("the class is not public and final");
        }
    }

    private static void checkNames(Class<?> owner, Set<String> faceNames) {
        for (Method method : owner.getDeclaredMethods()) {
            boolean ofFace = owner == OffsetRows.class && Modifier.isPublic(method.getModifiers());
            if (!ofFace && faceNames.contains(method.getName())) {
                fault(owner.getName() + "." + method.getName() + " bears the name of a public method");
            }
            if (method.getParameterCount() > 7) {
                fault(owner.getName() + "." + method.getName() + " takes more than seven parameters");
            }
        }
    }

    private static void checkFields(Class<?> owner) {
        int fields = 0;
        for (Field field : owner.getDeclaredFields()) {
            boolean isStatic = Modifier.isStatic(field.getModifiers());
            fields += isStatic ? 0 : 1;
            if (isStatic && !Modifier.isFinal(field.getModifiers())) {
                fault(owner.getName() + "." + field.getName() + " is static and not final");
            }
        }
        if (fields > 20) {
            fault(owner.getName() + " has " + fields + " fields");
        }
    }

    public static void main(String[] args) throws IllegalAccessException {
        checkFace();
        Set<String> faceNames = new TreeSet<>();
        for (Method method : OffsetRows.class.getDeclaredMethods()) {
            if (Modifier.isPublic(method.getModifiers())) {
                faceNames.add(method.getName());
            }
        }
        List<Class<?>> inside = Arrays.asList(OffsetRows.class.getDeclaredClasses());
        for (Class<?> nested : inside) {
            int modifiers = nested.getModifiers();
            if (!Modifier.isStatic(modifiers) || Modifier.isPublic(modifiers) || Modifier.isProtected(modifiers)) {
                fault(nested.getName() + " is not a static class that is private or package-visible");
            }
            checkNames(nested, faceNames);
            checkFields(nested);
        }
        checkNames(OffsetRows.class, faceNames);
        checkFields(OffsetRows.class);
        System.out.println(wrong == 0 ? "the face is as due" : wrong + " faults");
        if (wrong != 0) {
            System.exit(1);
        }
    }
}
