import java.lang.reflect.Constructor;
import java.lang.reflect.Field;
import java.lang.reflect.Method;
import java.lang.reflect.Modifier;
import java.util.TreeSet;

/** The public face is that of the document and nothing else. */
public final class FaceTest {
    public static void main(String[] args) {
        Check.due("public and final", Modifier.isPublic(DesignReader.class.getModifiers())
            && Modifier.isFinal(DesignReader.class.getModifiers()), true);
        TreeSet<String> methods = new TreeSet<>();
        TreeSet<String> privates = new TreeSet<>();
        for (Method method : DesignReader.class.getDeclaredMethods()) {
            if (Modifier.isPrivate(method.getModifiers())) {
                privates.add(method.getName());
            } else {
                methods.add(method.getName() + method.getParameterCount() + method.getReturnType());
            }
        }
        Check.due("methods", methods.toString(), "[again0int, feed5int, names0int, node3int, nodes1int, part3int, "
            + "read2int, same0boolean, spelt2int, whole2int, write2int, written1int]");
        for (Method method : DesignReader.class.getMethods()) {
            Check.due("a private method named " + method.getName(), privates.contains(method.getName()), false);
        }
        for (Field field : DesignReader.class.getDeclaredFields()) {
            if (!Modifier.isPrivate(field.getModifiers())) {
                Check.due("the only field to be seen", field.getName(), "NONE");
            }
        }
        for (Constructor<?> constructor : DesignReader.class.getDeclaredConstructors()) {
            Check.due("parameters of the constructor", constructor.getParameterCount(), 0);
        }
        for (Class<?> inside : DesignReader.class.getDeclaredClasses()) {
            Check.due("static: " + inside, Modifier.isStatic(inside.getModifiers()), true);
        }
        Check.end();
    }
}
