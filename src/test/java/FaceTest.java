import java.lang.reflect.Constructor;
import java.lang.reflect.Field;
import java.lang.reflect.Method;
import java.lang.reflect.Modifier;
import java.util.ArrayList;
import java.util.Arrays;
import java.util.Collections;
import java.util.List;

/** The public face is the document's, with nothing beside it. */
public final class FaceTest {
    private static final String[] METHODS = {
        "boolean set(int,int) throws ",
        "boolean type(long) throws ",
        "int code(int,int) throws java.lang.IllegalStateException",
        "int compile() throws java.lang.IllegalArgumentException,java.lang.UnsupportedOperationException",
        "int depth() throws java.lang.IllegalStateException",
        "int get(int) throws java.lang.IndexOutOfBoundsException",
        "int latest(int) throws ",
        "int length() throws ",
        "int output(int) throws java.lang.IndexOutOfBoundsException",
        "int procedure(int,int) throws java.lang.IllegalStateException",
        "int run() throws java.lang.IllegalStateException",
        "int time() throws java.lang.IllegalStateException",
        "void wipe() throws ",
    };

    private static String names(Class<?>[] types) {
        List<String> names = new ArrayList<>();
        for (Class<?> type : types) {
            names.add(type.getName());
        }
        return String.join(",", names);
    }

    private static void methods() {
        List<String> open = new ArrayList<>();
        List<String> closed = new ArrayList<>();
        for (Method m : TimedCompiler.class.getDeclaredMethods()) {
            if (Modifier.isPrivate(m.getModifiers())) {
                closed.add(m.getName());
            } else {
                open.add(m.getReturnType() + " " + m.getName() + "(" + names(m.getParameterTypes()) + ") throws "
                        + names(m.getExceptionTypes()));
                Check.due(m.getName() + " is public", Modifier.isPublic(m.getModifiers()), true);
                Check.due(m.getName() + " is no static one", Modifier.isStatic(m.getModifiers()), false);
            }
        }
        Collections.sort(open);
        Check.dueText("the methods", open.toString(), Arrays.toString(METHODS));
        for (String signature : METHODS) {
            String name = signature.substring(signature.indexOf(' ') + 1, signature.indexOf('('));
            Check.due("a private method is called " + name, closed.contains(name), false);
            for (Class<?> inside : TimedCompiler.class.getDeclaredClasses()) {
                for (Method m : inside.getDeclaredMethods()) {
                    Check.due(inside.getName() + " has a method " + name, m.getName().equals(name), false);
                }
            }
        }
    }

    private static void fields() {
        for (Field f : TimedCompiler.class.getDeclaredFields()) {
            boolean open = !Modifier.isPrivate(f.getModifiers());
            Check.due(f.getName() + " is to be seen", open, f.getName().equals("NONE"));
            if (Modifier.isStatic(f.getModifiers())) {
                Check.due(f.getName() + " is final", Modifier.isFinal(f.getModifiers()), true);
            }
        }
        Check.due("NONE", TimedCompiler.NONE, -1);
    }

    private static void classes() {
        int modifiers = TimedCompiler.class.getModifiers();
        Check.due("the class is public and final", Modifier.isPublic(modifiers) && Modifier.isFinal(modifiers), true);
        for (Class<?> inside : TimedCompiler.class.getDeclaredClasses()) {
            Check.due(inside.getName() + " is static", Modifier.isStatic(inside.getModifiers()), true);
            Check.due(inside.getName() + " is private", Modifier.isPrivate(inside.getModifiers()), true);
        }
        Constructor<?>[] makers = TimedCompiler.class.getDeclaredConstructors();
        Check.due("constructors", makers.length, 1);
        Check.due("its parameters", makers[0].getParameterCount(), 0);
        Check.due("it is public", Modifier.isPublic(makers[0].getModifiers()), true);
    }

    public static void main(String[] args) {
        methods();
        fields();
        classes();
        Check.finish("FaceTest");
    }
}
