import java.lang.reflect.Constructor;
import java.lang.reflect.Field;
import java.lang.reflect.Method;
import java.lang.reflect.Modifier;
import java.util.Set;
import java.util.TreeSet;

/** The public face: every member of it, and no other that can be seen from outside. */
public final class FaceTest {
    private static final Set<String> METHODS = Set.of(
        "int load(int)", "int wipe()", "int print()", "boolean dot(int,int,int)",
        "int blot(int,int,int,int,int,boolean)", "void flip(int,int,int)", "int feed(int,int)",
        "int errors(int)", "int missing()", "int rebuild()", "int out(int)", "int reset()");

    public static void main(String[] args) {
        Check check = new Check("the face");
        check.same("public and final", Modifier.isPublic(DotVault.class.getModifiers())
            && Modifier.isFinal(DotVault.class.getModifiers()), true);
        Set<String> seen = new TreeSet<>();
        for (Method method : DotVault.class.getDeclaredMethods()) {
            if (!Modifier.isPrivate(method.getModifiers())) {
                seen.add(described(method));
                check.same(method + " is public", Modifier.isPublic(method.getModifiers()), true);
            }
        }
        check.same("the methods", seen, new TreeSet<>(METHODS));
        for (Field field : DotVault.class.getDeclaredFields()) {
            check.same(field + " is private", Modifier.isPrivate(field.getModifiers()), true);
            if (Modifier.isStatic(field.getModifiers())) {
                check.same(field + " is final", Modifier.isFinal(field.getModifiers()), true);
            }
        }
        Constructor<?>[] constructors = DotVault.class.getDeclaredConstructors();
        check.same("one constructor", constructors.length, 1);
        check.same("it is public", Modifier.isPublic(constructors[0].getModifiers()), true);
        check.same("it takes nothing", constructors[0].getParameterCount(), 0);
        for (Class<?> inside : DotVault.class.getDeclaredClasses()) {
            check.same(inside + " is static", Modifier.isStatic(inside.getModifiers()), true);
            check.same(inside + " is not public", Modifier.isPublic(inside.getModifiers()), false);
        }
        check.end();
    }

    private static String described(Method method) {
        StringBuilder parameters = new StringBuilder();
        for (Class<?> type : method.getParameterTypes()) {
            parameters.append(parameters.length() == 0 ? "" : ",").append(type.getName());
        }
        return method.getReturnType().getName() + " " + method.getName() + "(" + parameters + ")";
    }
}
