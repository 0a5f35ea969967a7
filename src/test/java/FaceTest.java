import java.lang.reflect.Constructor;
import java.lang.reflect.Field;
import java.lang.reflect.Method;
import java.lang.reflect.Modifier;
import java.util.Arrays;
import java.util.Set;
import java.util.TreeSet;

/** The class has the document's face and no other member that can be seen from outside. */
public final class FaceTest {
    private static final String[] METHODS = {
        "void seed(int)", "int malloc(int)", "boolean free(int)", "long load(int)", "boolean store(int,int)",
        "int mesh(int,int)", "int probes()", "int size(int)", "int freeSpans()", "int mapped(int)",
        "int count(int)", "int blocks()", "int heaps(int)", "int attached(int)", "int heapOf(int)",
        "int vector(int,int)"};

    private static final Check CHECK = new Check("FaceTest");

    public static void main(String[] args) {
        constants();
        members();
        insideClasses();
        CHECK.done();
    }

    private static void constants() {
        CHECK.due("NONE", MeshedSpans.NONE, -1);
        CHECK.due("WILD", MeshedSpans.WILD, -2);
        CHECK.due("WILD_ACCESS", MeshedSpans.WILD_ACCESS, 4294967296L);
    }

    private static void members() {
        CHECK.due("the class is public and final", MeshedSpans.class.getModifiers(), Modifier.PUBLIC | Modifier.FINAL);
        Set<String> fields = new TreeSet<>();
        for (Field field : MeshedSpans.class.getDeclaredFields()) {
            if (!Modifier.isPrivate(field.getModifiers())) {
                fields.add(Modifier.toString(field.getModifiers()) + " " + field.getType() + " " + field.getName());
            }
            boolean still = !Modifier.isStatic(field.getModifiers()) || Modifier.isFinal(field.getModifiers());
            CHECK.due("a static field is final: " + field.getName(), still, true);
        }
        same("fields", fields, "public static final int NONE", "public static final int WILD", "public static final long WILD_ACCESS");
        Set<String> methods = new TreeSet<>();
        Set<String> privateNames = new TreeSet<>();
        for (Method method : MeshedSpans.class.getDeclaredMethods()) {
            if (Modifier.isPrivate(method.getModifiers())) {
                privateNames.add(method.getName());
            } else {
                CHECK.due("modifiers of " + method.getName(), method.getModifiers(), Modifier.PUBLIC);
                methods.add(method.getReturnType() + " " + method.getName() + kinds(method.getParameterTypes()));
            }
        }
        same("methods", methods, METHODS);
        for (String face : METHODS) {
            String name = face.substring(face.indexOf(' ') + 1, face.indexOf('('));
            CHECK.due("a private method bears the name " + name, privateNames.contains(name), false);
        }
        Set<String> constructors = new TreeSet<>();
        for (Constructor<?> constructor : MeshedSpans.class.getDeclaredConstructors()) {
            constructors.add(Modifier.toString(constructor.getModifiers()) + kinds(constructor.getParameterTypes()));
        }
        same("constructors", constructors, "public(int)");
    }

    private static void insideClasses() {
        for (Class<?> inside : MeshedSpans.class.getDeclaredClasses()) {
            int modifiers = inside.getModifiers();
            boolean hidden = !Modifier.isPublic(modifiers) && !Modifier.isProtected(modifiers);
            CHECK.due(inside.getName() + " is hidden and static", hidden && Modifier.isStatic(modifiers), true);
        }
    }

    private static String kinds(Class<?>[] types) {
        StringBuilder text = new StringBuilder("(");
        for (int i = 0; i < types.length; i++) {
            text.append(i == 0 ? "" : ",").append(types[i]);
        }
        return text.append(")").toString();
    }

    private static void same(String what, Set<String> got, String... want) {
        Set<String> due = new TreeSet<>(Arrays.asList(want));
        CHECK.due("the " + what + " " + got + " are " + due, got.equals(due), true);
    }
}
