import java.lang.reflect.Constructor;
import java.lang.reflect.Field;
import java.lang.reflect.Method;
import java.lang.reflect.Modifier;
import java.util.Set;
import java.util.TreeSet;

/** The class shows the document's face and no other member (LANGUAGE.md, rules 1 and 5). */
public final class FaceTest {
    private static final Set<String> METHODS = new TreeSet<>(Set.of(
        "boolean register(int,long)", "boolean power(int,boolean)", "boolean type(char,int)", "void wipe()",
        "int send(int,long,int,boolean)", "boolean alter(int,int)", "int receive()", "int advance(int)",
        "int take(int)", "boolean copy(int)", "boolean swap(int)", "int report(int)", "int waiting(int)",
        "int byteAt(int,int)", "int text(int,int)", "long sender(int)", "int state(int)", "int offers(int)",
        "int time()"));
    private static final Set<String> CONSTANTS =
        new TreeSet<>(Set.of("BAD -1", "NONE -2", "FULL -3", "ALIEN -4", "LONG -5", "ILLEGAL -6"));

    public static void main(String[] args) throws IllegalAccessException {
        Due due = new Due("FaceTest");
        Class<?> face = SeptetCentre.class;
        due.about("the class");
        due.is("public", Modifier.isPublic(face.getModifiers()), true);
        due.is("final", Modifier.isFinal(face.getModifiers()), true);
        constructors(due, face);
        Set<String> methods = shownMethods(due, face);
        due.is("methods as in the document: " + methods, methods.equals(METHODS), true);
        due.is("constants as in the document", shownConstants(due, face).equals(CONSTANTS), true);
        nested(due, face);
        due.end();
    }

    private static void constructors(Due due, Class<?> face) {
        Constructor<?>[] all = face.getDeclaredConstructors();
        due.is("constructors", all.length, 1);
        due.is("a public one without arguments",
            Modifier.isPublic(all[0].getModifiers()) && all[0].getParameterCount() == 0, true);
    }

    private static Set<String> shownMethods(Due due, Class<?> face) {
        Set<String> shown = new TreeSet<>();
        Set<String> shownNames = new TreeSet<>();
        for (Method method : face.getDeclaredMethods()) {
            if (!Modifier.isPrivate(method.getModifiers())) {
                due.is(method.getName() + " is public", Modifier.isPublic(method.getModifiers()), true);
                due.is(method.getName() + " is static", Modifier.isStatic(method.getModifiers()), false);
                shown.add(signature(method));
                shownNames.add(method.getName());
            }
        }
        for (Method method : face.getDeclaredMethods()) {
            if (Modifier.isPrivate(method.getModifiers())) {
                due.is(method.getName() + " bears a public name", shownNames.contains(method.getName()), false);
            }
        }
        return shown;
    }

    private static String signature(Method method) {
        StringBuilder parameters = new StringBuilder();
        for (Class<?> type : method.getParameterTypes()) {
            parameters.append(parameters.length() == 0 ? "" : ",").append(type.getName());
        }
        return method.getReturnType().getName() + " " + method.getName() + "(" + parameters + ")";
    }

    private static Set<String> shownConstants(Due due, Class<?> face) throws IllegalAccessException {
        Set<String> shown = new TreeSet<>();
        for (Field field : face.getDeclaredFields()) {
            int is = field.getModifiers();
            if (Modifier.isStatic(is)) {
                due.is(field.getName() + " is final", Modifier.isFinal(is), true);
            }
            if (!Modifier.isPrivate(is)) {
                due.is(field.getName() + " is a public constant of int",
                    Modifier.isPublic(is) && Modifier.isStatic(is) && field.getType() == int.class, true);
                shown.add(field.getName() + " " + field.getInt(null));
            }
        }
        return shown;
    }

    private static void nested(Due due, Class<?> face) {
        Class<?>[] inside = face.getDeclaredClasses();
        due.is("at most twelve classes", inside.length <= 11, true);
        for (Class<?> one : inside) {
            int is = one.getModifiers();
            due.is(one.getSimpleName() + " is static and not shown",
                Modifier.isStatic(is) && !Modifier.isPublic(is) && !Modifier.isProtected(is), true);
            for (Field field : one.getDeclaredFields()) {
                if (Modifier.isStatic(field.getModifiers())) {
                    due.is(one.getSimpleName() + "." + field.getName() + " is final",
                        Modifier.isFinal(field.getModifiers()), true);
                }
            }
        }
    }
}
