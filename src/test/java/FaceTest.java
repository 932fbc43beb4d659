import java.lang.reflect.Constructor;
import java.lang.reflect.Field;
import java.lang.reflect.Method;
import java.lang.reflect.Modifier;
import java.util.Arrays;
import java.util.TreeSet;

/** The face is the document's and nothing more (rules 1 and 5 of LANGUAGE.md). */
public final class FaceTest {
    private static final String[] CONSTANTS = {"UNKNOWN", "OUTSIDE", "STATE", "FULL", "NO", "NONE", "FAULT"};
    private static final String[] METHODS = {"points 1", "beside 3", "blocks 3", "join 0", "say 1", "wipe 0", "turn 1",
        "type 2", "orbit 2", "sorts 1", "weight 2", "patterns 1", "pattern 2", "of 2", "kinds 1", "by 2", "image 1",
        "restore 1", "count 1"};

    public static void main(String[] args) throws IllegalAccessException {
        Due due = new Due();
        Class<?> face = TurnCounts.class;
        due.is("public and final", face.getModifiers() & (Modifier.PUBLIC | Modifier.FINAL), Modifier.PUBLIC | Modifier.FINAL);
        checkConstants(due, face);
        checkMethods(due, face);
        Constructor<?>[] makers = face.getDeclaredConstructors();
        due.is("one constructor", makers.length, 1);
        due.is("it is public", makers[0].getModifiers(), Modifier.PUBLIC);
        due.is("it takes nothing", makers[0].getParameterCount(), 0);
        for (Class<?> inside : face.getDeclaredClasses()) {
            due.is(inside.getName() + " is static", inside.getModifiers() & Modifier.STATIC, Modifier.STATIC);
            due.is(inside.getName() + " is not public", inside.getModifiers() & (Modifier.PUBLIC | Modifier.PROTECTED), 0);
        }
        due.end();
    }

    private static void checkConstants(Due due, Class<?> face) throws IllegalAccessException {
        TreeSet<String> left = new TreeSet<>(Arrays.asList(CONSTANTS));
        for (Field field : face.getDeclaredFields()) {
            int modifiers = field.getModifiers();
            if (Modifier.isPrivate(modifiers)) {
                due.is(field + ": static fields are final",
                    Modifier.isStatic(modifiers) && !Modifier.isFinal(modifiers) ? 1 : 0, 0);
                continue;
            }
            due.is(field + " is of the face", left.remove(field.getName()) ? 1 : 0, 1);
            due.is(field + " is public static final", modifiers, Modifier.PUBLIC | Modifier.STATIC | Modifier.FINAL);
            due.is(field + " is its number", field.getInt(null), -1 - Arrays.asList(CONSTANTS).indexOf(field.getName()));
        }
        due.is("constants that lack: " + left, left.size(), 0);
    }

    private static void checkMethods(Due due, Class<?> face) {
        TreeSet<String> left = new TreeSet<>(Arrays.asList(METHODS));
        for (Method method : face.getDeclaredMethods()) {
            boolean named = Arrays.stream(METHODS).anyMatch(m -> m.startsWith(method.getName() + " "));
            if (Modifier.isPrivate(method.getModifiers())) {
                due.is(method + " has a name of its own", named ? 1 : 0, 0);
                continue;
            }
            due.is(method + " is of the face", left.remove(method.getName() + " " + method.getParameterCount()) ? 1 : 0, 1);
            due.is(method + " is public alone", method.getModifiers(), Modifier.PUBLIC);
            due.is(method + " answers int", method.getReturnType() == int.class ? 1 : 0, 1);
            for (Class<?> type : method.getParameterTypes()) {
                due.is(method + " takes int", type == int.class ? 1 : 0, 1);
            }
        }
        due.is("methods that lack: " + left, left.size(), 0);
    }
}
