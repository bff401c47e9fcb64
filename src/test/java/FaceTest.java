import java.lang.reflect.Constructor;
import java.lang.reflect.Field;
import java.lang.reflect.Method;
import java.lang.reflect.Modifier;
import java.util.Arrays;
import java.util.Set;
import java.util.TreeSet;

/** The public face is that of the document, with nothing beside it. */
public final class FaceTest {
    private static final String[] METHODS = {
        "int letter(int)", "int blank()", "int fault()", "int roads()", "int stretch(int,int)",
        "int turn(int,int,int)", "int rank()", "int road(int,int)", "int cost(int,int)", "int order(int)",
        "int least(int,int)", "int way(int,int,int)", "int arc(int,int,int)", "int unpacked(int,int,int)",
        "int up(int,int)", "int down(int,int)", "int meet(int,int)", "int route(int,int)", "int loss(int,int)",
        "int all(int)", "int count(int)", "long digest()",
    };
    private static final String[] CONSTANTS = {"NONE", "UNKNOWN", "OUTSIDE", "STATE", "FULL", "BARRED"};

    public static void main(String[] args) {
        Check check = new Check("FaceTest");
        check.holds("the class is public and final",
                Modifier.isPublic(BarredTurns.class.getModifiers()) && Modifier.isFinal(BarredTurns.class.getModifiers()));
        check.holds("the methods are those of the document: " + openMethods(),
                openMethods().equals(new TreeSet<>(Arrays.asList(METHODS))));
        check.holds("the open fields are those of the document: " + openFields(),
                openFields().equals(new TreeSet<>(Arrays.asList(CONSTANTS))));
        Constructor<?>[] made = BarredTurns.class.getDeclaredConstructors();
        check.holds("one public constructor without parameters",
                made.length == 1 && Modifier.isPublic(made[0].getModifiers()) && made[0].getParameterCount() == 0);
        check.holds("no private method bears the name of a public one", !hidesPublicName());
        for (Class<?> inside : BarredTurns.class.getDeclaredClasses()) {
            check.holds(inside.getName() + " is static", Modifier.isStatic(inside.getModifiers()));
        }
        check.due("NONE", BarredTurns.NONE, -1);
        check.due("UNKNOWN", BarredTurns.UNKNOWN, -101);
        check.due("OUTSIDE", BarredTurns.OUTSIDE, -102);
        check.due("STATE", BarredTurns.STATE, -103);
        check.due("FULL", BarredTurns.FULL, -104);
        check.due("BARRED", BarredTurns.BARRED, -5);
        check.end();
    }

    private static Set<String> openMethods() {
        Set<String> open = new TreeSet<>();
        for (Method method : BarredTurns.class.getDeclaredMethods()) {
            if (!Modifier.isPrivate(method.getModifiers())) {
                StringBuilder types = new StringBuilder();
                for (Class<?> type : method.getParameterTypes()) {
                    types.append(types.length() == 0 ? "" : ",").append(type.getName());
                }
                open.add(method.getReturnType().getName() + " " + method.getName() + "(" + types + ")");
            }
        }
        return open;
    }

    private static Set<String> openFields() {
        Set<String> open = new TreeSet<>();
        for (Field field : BarredTurns.class.getDeclaredFields()) {
            if (!Modifier.isPrivate(field.getModifiers())) {
                open.add(field.getName());
            }
        }
        return open;
    }

    private static boolean hidesPublicName() {
        Set<String> names = new TreeSet<>();
        for (String method : METHODS) {
            names.add(method.substring(method.indexOf(' ') + 1, method.indexOf('(')));
        }
        for (Method method : BarredTurns.class.getDeclaredMethods()) {
            if (Modifier.isPrivate(method.getModifiers()) && names.contains(method.getName())) {
                return true;
            }
        }
        for (Class<?> inside : BarredTurns.class.getDeclaredClasses()) {
            for (Method method : inside.getDeclaredMethods()) {
                if (names.contains(method.getName())) {
                    return true;
                }
            }
        }
        return false;
    }
}
