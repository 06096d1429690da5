import java.lang.reflect.Constructor;
import java.lang.reflect.Field;
import java.lang.reflect.Method;
import java.lang.reflect.Modifier;
import java.util.Arrays;
import java.util.Set;
import java.util.TreeSet;

/** The public face as the document gives it, and rules 1, 2, 5 and 10 of LANGUAGE.md about members. */
public final class FaceTest {
    private static final int MOST_FIELDS = 40;
    private static final int MOST_PARAMETERS = 7;

    private static final Due due = new Due();

    public static void main(String[] args) {
        theClass();
        theConstants();
        theConstructor();
        theMethods();
        theFields();
        due.end();
    }

    private static void theClass() {
        int modifiers = DocTrees.class.getModifiers();
        due.holds("the class is public", Modifier.isPublic(modifiers));
        due.holds("the class is final", Modifier.isFinal(modifiers));
        due.holds("the class has no package", DocTrees.class.getPackageName().isEmpty());
        due.holds("the class extends nothing", DocTrees.class.getSuperclass() == Object.class);
        due.is("interfaces", DocTrees.class.getInterfaces().length, 0);
        due.is("nested classes", DocTrees.class.getDeclaredClasses().length, 0);
    }

    private static void theConstants() {
        due.is("BAD_SITE", DocTrees.BAD_SITE, -1);
        due.is("BAD_DOC", DocTrees.BAD_DOC, -2);
        due.is("FULL", DocTrees.FULL, -3);
        due.is("CONFLICT", DocTrees.CONFLICT, -4);
        due.is("NO_REVISION", DocTrees.NO_REVISION, -5);
        due.is("public fields", DocTrees.class.getFields().length, 5);
    }

    private static void theConstructor() {
        Constructor<?>[] constructors = DocTrees.class.getDeclaredConstructors();
        due.is("constructors", constructors.length, 1);
        due.is("its parameters", constructors[0].getParameterCount(), 0);
        due.holds("it is public", Modifier.isPublic(constructors[0].getModifiers()));
    }

    private static void theMethods() {
        Set<String> wanted = new TreeSet<>(Arrays.asList(
                "int put 4", "int delete 3", "int branch 4", "int pull 2", "int compact 1",
                "int winner 2", "int conflicts 2", "int conflict 3", "int leaves 2",
                "boolean readable 2", "int body 2", "int depth 1", "int common 2",
                "int changes 1"));
        Set<String> found = new TreeSet<>();
        Set<String> publicNames = new TreeSet<>();
        for (Method method : DocTrees.class.getDeclaredMethods()) {
            if (Modifier.isPublic(method.getModifiers())) {
                found.add(method.getReturnType() + " " + method.getName()
                        + " " + method.getParameterCount());
                publicNames.add(method.getName());
                onlyInts(method);
            }
        }
        due.holds("public methods " + found + " are " + wanted, found.equals(wanted));
        for (Method method : DocTrees.class.getDeclaredMethods()) {
            hiddenMethod(method, publicNames);
        }
    }

    private static void onlyInts(Method method) {
        due.holds(method.getName() + " is not static", !Modifier.isStatic(method.getModifiers()));
        for (Class<?> type : method.getParameterTypes()) {
            due.holds(method.getName() + " takes ints alone", type == int.class);
        }
    }

    private static void hiddenMethod(Method method, Set<String> publicNames) {
        String name = method.getName();
        due.holds(name + " has few parameters", method.getParameterCount() <= MOST_PARAMETERS);
        if (!Modifier.isPublic(method.getModifiers())) {
            due.holds(name + " is private", Modifier.isPrivate(method.getModifiers()));
            due.holds(name + " is no public name", !publicNames.contains(name));
        }
    }

    private static void theFields() {
        int beside = 0;
        for (Field field : DocTrees.class.getDeclaredFields()) {
            int modifiers = field.getModifiers();
            String name = field.getName();
            if (Modifier.isStatic(modifiers)) {
                due.holds(name + " is a constant", Modifier.isFinal(modifiers)
                        && (field.getType() == int.class || field.getType() == long.class));
            } else {
                beside++;
                due.holds(name + " is private", Modifier.isPrivate(modifiers));
            }
            due.holds(name + " is of a plain type", isPlain(field.getType()));
        }
        due.holds("few fields", beside <= MOST_FIELDS);
    }

    private static boolean isPlain(Class<?> type) {
        Class<?> base = type.isArray() ? type.getComponentType() : type;
        return base.isPrimitive() && base != float.class && base != double.class;
    }
}
