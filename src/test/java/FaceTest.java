import java.lang.reflect.Constructor;
import java.lang.reflect.Field;
import java.lang.reflect.Method;
import java.lang.reflect.Modifier;
import java.util.Arrays;
import java.util.TreeSet;
import java.util.stream.Collectors;

/** The public face: its constants, its constructor, its methods with what they throw, and nothing else. */
public final class FaceTest {
    private static final Check CHECK = new Check("FaceTest");
    private static final String BOTH = " throws IllegalArgumentException, IllegalStateException";
    private static final String STATE = " throws IllegalStateException";
    private static final String[] METHODS = {
        "int put(int, int)" + BOTH,
        "int drop(int)" + BOTH,
        "int undo()" + STATE,
        "long get(int)" + BOTH,
        "int commit()" + STATE,
        "int copy()" + STATE,
        "long find(int, int)" + BOTH,
        "int next(int, int)" + BOTH,
        "int rows(int)" + BOTH,
        "int kept(int)" + BOTH,
        "void crash(int)" + BOTH,
        "int reopen()",
        "boolean isDown()",
        "int byteAt(int, int)" + BOTH,
        "int poke(int, int, int)" + BOTH,
        "int badAt(int)" + BOTH,
        "int told(int)" + BOTH,
    };

    public static void main(String[] args) {
        CHECK.due("the class is public and final",
                Modifier.isPublic(BookTrees.class.getModifiers()) && Modifier.isFinal(BookTrees.class.getModifiers()), true);
        constants();
        constructors();
        methods();
        classesInside();
        CHECK.end();
    }

    private static void constants() {
        CHECK.due("NONE", BookTrees.NONE, -1);
        CHECK.due("BAD", BookTrees.BAD, -2);
        CHECK.due("FULL", BookTrees.FULL, -3);
        CHECK.due("CUT", BookTrees.CUT, -4);
        CHECK.due("GONE", BookTrees.GONE, 1000000000000L);
        CHECK.due("BADLY", BookTrees.BADLY, 1000000000001L);
        TreeSet<String> open = new TreeSet<>();
        for (Field field : BookTrees.class.getDeclaredFields()) {
            if (!Modifier.isPrivate(field.getModifiers())) {
                open.add(Modifier.toString(field.getModifiers()) + " " + field.getType() + " " + field.getName());
            }
        }
        TreeSet<String> want = new TreeSet<>();
        for (String name : new String[] {"int NONE", "int BAD", "int FULL", "int CUT", "long GONE", "long BADLY"}) {
            want.add("public static final " + name);
        }
        CHECK.due("the fields that are not private", open.toString(), want.toString());
    }

    private static void constructors() {
        Constructor<?>[] all = BookTrees.class.getDeclaredConstructors();
        CHECK.due("how many constructors", all.length, 1);
        CHECK.due("the constructor", all[0].toString(), "public BookTrees(int)");
    }

    private static void methods() {
        TreeSet<String> open = new TreeSet<>();
        TreeSet<String> publicNames = new TreeSet<>();
        TreeSet<String> privateNames = new TreeSet<>();
        for (Method method : BookTrees.class.getDeclaredMethods()) {
            if (Modifier.isPrivate(method.getModifiers())) {
                privateNames.add(method.getName());
            } else {
                publicNames.add(method.getName());
                open.add(Modifier.toString(method.getModifiers()) + " " + said(method));
            }
        }
        TreeSet<String> want = new TreeSet<>();
        for (String method : METHODS) {
            want.add("public " + method);
        }
        CHECK.due("the methods that are not private", open.toString(), want.toString());
        privateNames.retainAll(publicNames);
        CHECK.due("private methods with a public name", privateNames.toString(), "[]");
    }

    private static String said(Method method) {
        String head = method.getReturnType() + " " + method.getName() + "(" + names(method.getParameterTypes()) + ")";
        String thrown = names(method.getExceptionTypes());
        return thrown.isEmpty() ? head : head + " throws " + thrown;
    }

    private static String names(Class<?>[] types) {
        return Arrays.stream(types).map(Class::getSimpleName).collect(Collectors.joining(", "));
    }

    private static void classesInside() {
        for (Class<?> inside : BookTrees.class.getDeclaredClasses()) {
            int modifiers = inside.getModifiers();
            CHECK.due(inside.getName() + " is static", Modifier.isStatic(modifiers), true);
            CHECK.due(inside.getName() + " is hidden", Modifier.isPublic(modifiers) || Modifier.isProtected(modifiers), false);
        }
    }
}
