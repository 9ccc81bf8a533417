import java.lang.reflect.Constructor;
import java.lang.reflect.Field;
import java.lang.reflect.Method;
import java.lang.reflect.Modifier;
import java.util.ArrayList;
import java.util.Arrays;
import java.util.Collections;
import java.util.List;

/** The public face: the document's members and no other that is not private. */
public final class FaceTest {
    private static String signature(Method method) {
        StringBuilder text = new StringBuilder(method.getReturnType() + " " + method.getName());
        for (Class<?> type : method.getParameterTypes()) {
            text.append(' ').append(type);
        }
        for (Class<?> type : method.getExceptionTypes()) {
            text.append(" throws ").append(type.getSimpleName());
        }
        return text.toString();
    }

    public static void main(String[] args) {
        Checks checks = new Checks("face");
        List<String> found = new ArrayList<>();
        for (Method method : TinyShell.class.getDeclaredMethods()) {
            if (!Modifier.isPrivate(method.getModifiers())) {
                found.add(signature(method));
                checks.same(method + " is public", Modifier.isPublic(method.getModifiers()), true);
                checks.same(method + " is static", Modifier.isStatic(method.getModifiers()), false);
            }
        }
        List<String> due = Arrays.asList("boolean type long", "void wipe",
            "int run throws IllegalArgumentException throws UnsupportedOperationException", "int place", "char output int",
            "int count int", "char value int int", "char position int int", "char content int int",
            "char name boolean int int");
        Collections.sort(found);
        Collections.sort(due);
        checks.same("the methods", found, due);
        for (Field field : TinyShell.class.getDeclaredFields()) {
            checks.same(field + " is private", Modifier.isPrivate(field.getModifiers()), true);
        }
        Constructor<?>[] constructors = TinyShell.class.getDeclaredConstructors();
        checks.same("how many constructors", constructors.length, 1);
        checks.same("the constructor", constructors[0].toString(), "public TinyShell()");
        checks.same("the class", Modifier.toString(TinyShell.class.getModifiers()), "public final");
        checks.end();
    }
}
