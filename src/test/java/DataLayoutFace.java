import java.lang.reflect.Constructor;
import java.lang.reflect.Executable;
import java.lang.reflect.Field;
import java.lang.reflect.Method;
import java.lang.reflect.Modifier;
import java.util.Arrays;
import java.util.HashSet;
import java.util.Set;
import java.util.TreeSet;

/** Compares the class with the document's public face, and with rules that a compiled class shows. */
public final class DataLayoutFace {
    private static final String[] FACE = {
        "int NONE",
        "DataLayout()",
        "int item(int, int, int)",
        "int clause(int, int, int, int)",
        "int lay()",
        "int place(int)",
        "int size(int)",
        "int subscript(int, int, int, int) throws ArrayIndexOutOfBoundsException",
        "int checks(boolean)",
        "int depending(int, int)",
        "int redefines(int, int)",
        "int refer(int, int, int)",
        "int slack(int)",
        "int external(int, int)",
        "byte at(int) throws ArrayIndexOutOfBoundsException",
        "int octet(int, byte)",
        "boolean holds(int) throws IllegalArgumentException IllegalStateException",
        "int count(int)",
    };
    private static final Set<Class<?>> CONSTANTS = Set.of(int.class, long.class, boolean.class, char.class,
            String.class, int[].class, long[].class, char[].class, byte[].class);
    private static final int MOST_CLASSES = 12;
    private static final int MOST_FIELDS = 20;
    private static final int MOST_PARAMETERS = 7;

    private static int asked = 0;
    private static int wrong = 0;

    public static void main(String[] args) {
        face();
        members();
        Class<?>[] inside = DataLayout.class.getDeclaredClasses();
        due("some twelve classes at most", inside.length + 1 <= MOST_CLASSES);
        looks(DataLayout.class);
        for (Class<?> c : inside) {
            int flags = c.getModifiers();
            due(c + " is static", Modifier.isStatic(flags));
            due(c + " is not public or protected", !Modifier.isPublic(flags) && !Modifier.isProtected(flags));
            due(c + " has no classes inside", c.getDeclaredClasses().length == 0);
            looks(c);
        }
        System.out.println(asked + " things of the face and of the rules looked at, " + wrong + " of them wrong");
        if (wrong != 0) {
            System.exit(1);
        }
    }

    private static void due(String what, boolean so) {
        asked++;
        if (!so) {
            wrong++;
            System.out.println("not so: " + what);
        }
    }

    private static void face() {
        Class<?> c = DataLayout.class;
        due("public and final", Modifier.isPublic(c.getModifiers()) && Modifier.isFinal(c.getModifiers()));
        due("without a package", c.getPackageName().isEmpty());
        due("of no other class", c.getSuperclass() == Object.class && c.getInterfaces().length == 0);
        due("NONE is -1", DataLayout.NONE == -1);
        Set<String> want = new TreeSet<>(Arrays.asList(FACE));
        Set<String> got = new TreeSet<>();
        for (Field field : c.getDeclaredFields()) {
            if (Modifier.isPublic(field.getModifiers())) {
                got.add(field.getType().getSimpleName() + " " + field.getName());
                due(field + " is a constant", Modifier.isStatic(field.getModifiers()));
            }
        }
        for (Constructor<?> made : c.getDeclaredConstructors()) {
            if (Modifier.isPublic(made.getModifiers())) {
                got.add(c.getSimpleName() + behindName(made));
            }
        }
        for (Method method : c.getDeclaredMethods()) {
            if (Modifier.isPublic(method.getModifiers())) {
                got.add(method.getReturnType().getSimpleName() + " " + method.getName() + behindName(method));
                due(method + " is of an object", !Modifier.isStatic(method.getModifiers()));
            }
        }
        for (String member : want) {
            due("the face has " + member, got.contains(member));
        }
        for (String member : got) {
            due("the document has " + member, want.contains(member));
        }
    }

    private static String behindName(Executable called) {
        StringBuilder text = new StringBuilder("(");
        for (Class<?> kind : called.getParameterTypes()) {
            text.append(text.length() > 1 ? ", " : "").append(kind.getSimpleName());
        }
        text.append(')');
        Class<?>[] thrown = called.getExceptionTypes();
        for (int k = 0; k < thrown.length; k++) {
            text.append(k == 0 ? " throws " : " ").append(thrown[k].getSimpleName());
        }
        return text.toString();
    }

    /** Rule 1: what isn't public is private. */
    private static void members() {
        Class<?> c = DataLayout.class;
        for (Field field : c.getDeclaredFields()) {
            due(field + " is public or private", isOpenOrHidden(field.getModifiers()));
        }
        for (Constructor<?> made : c.getDeclaredConstructors()) {
            due(made + " is public or private", isOpenOrHidden(made.getModifiers()));
        }
        for (Method method : c.getDeclaredMethods()) {
            due(method + " is public or private", isOpenOrHidden(method.getModifiers()));
        }
    }

    private static boolean isOpenOrHidden(int flags) {
        return Modifier.isPublic(flags) || Modifier.isPrivate(flags);
    }

    /** Rules 1, 2, 5, 6 and 11, as far as they can be seen here. */
    private static void looks(Class<?> c) {
        int fields = 0;
        for (Field field : c.getDeclaredFields()) {
            if (!Modifier.isStatic(field.getModifiers())) {
                fields++;
                continue;
            }
            due(field + " is final", Modifier.isFinal(field.getModifiers()));
            due(field + " is a constant of a number or a text", CONSTANTS.contains(field.getType()));
        }
        due(c + " has some twenty fields at most", fields <= MOST_FIELDS);
        Set<String> open = new HashSet<>();
        for (Method method : DataLayout.class.getMethods()) {
            open.add(method.getName());
        }
        for (Method method : c.getDeclaredMethods()) {
            int flags = method.getModifiers();
            due(method + " has seven parameters at most", method.getParameterCount() <= MOST_PARAMETERS);
            due(method + " is written, no lambda", !method.isSynthetic());
            due(method + " is not synchronized", !Modifier.isSynchronized(flags));
            due(method + " is public or has no public one's name",
                    (c == DataLayout.class && Modifier.isPublic(flags)) || !open.contains(method.getName()));
        }
    }
}
