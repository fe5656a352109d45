import java.io.IOException;
import java.lang.reflect.Method;
import java.lang.reflect.Modifier;
import java.nio.file.Files;
import java.nio.file.Path;
import java.util.Set;
import java.util.TreeSet;
import java.util.regex.Matcher;
import java.util.regex.Pattern;

/** The example in README.md: each call answers the first word of the comment behind it. */
public final class ReadmeTest {
    private static final Pattern CALL = Pattern.compile("vault\\.(\\w+)\\((.*?)\\); *// (\\w+).*");

    public static void main(String[] args) throws IOException {
        Check check = new Check("the example");
        DotVault vault = new DotVault();
        Set<String> used = new TreeSet<>();
        for (String line : Files.readAllLines(Path.of("README.md"))) {
            Matcher call = CALL.matcher(line);
            if (call.matches()) {
                used.add(call.group(1));
                check.due(line, () -> answer(vault, call.group(1), call.group(2)), call.group(3));
            }
        }
        check.same("the methods in the example", used, publicMethods());
        check.end();
    }

    private static Set<String> publicMethods() {
        Set<String> names = new TreeSet<>();
        for (Method method : DotVault.class.getDeclaredMethods()) {
            if (Modifier.isPublic(method.getModifiers())) {
                names.add(method.getName());
            }
        }
        return names;
    }

    private static Object answer(DotVault vault, String name, String written) {
        for (Method method : DotVault.class.getDeclaredMethods()) {
            if (method.getName().equals(name)) {
                return run(vault, method, written);
            }
        }
        return "no such method";
    }

    private static Object run(DotVault vault, Method method, String written) {
        try {
            Object answer = method.invoke(vault, values(method.getParameterTypes(), written));
            return method.getReturnType() == void.class ? "nothing" : answer;
        } catch (ReflectiveOperationException e) {
            return "throws " + e.getCause();
        }
    }

    private static Object[] values(Class<?>[] types, String written) {
        String[] texts = written.split(", ");
        Object[] values = new Object[types.length];
        for (int i = 0; i < types.length; i++) {
            values[i] = types[i] == boolean.class ? (Object) Boolean.valueOf(texts[i]) : Integer.valueOf(texts[i]);
        }
        return values;
    }
}
