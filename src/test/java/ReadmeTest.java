import java.lang.reflect.Method;
import java.nio.file.Files;
import java.nio.file.Path;
import java.util.Arrays;
import java.util.Set;
import java.util.TreeSet;
import java.util.regex.Matcher;
import java.util.regex.Pattern;

/** The calls of README.md, in their order on one object, answer what stands beside them. */
public final class ReadmeTest {
    // "forms.set(0, 0, 6);   // true: .." has the name, the arguments and the answer.
    private static final Pattern CALL = Pattern.compile("forms\\.(\\w+)\\(([-0-9, ]*)\\);\\s*// (-?\\w+).*");

    private ReadmeTest() {
    }

    public static void main(String[] args) throws Exception {
        Due.begin();
        NormalForms forms = new NormalForms();
        Set<String> shown = new TreeSet<>();
        for (String line : Files.readAllLines(Path.of("README.md"))) {
            Matcher call = CALL.matcher(line);
            if (call.matches()) {
                shown.add(call.group(1));
                answers(forms, call.group(1), call.group(2), call.group(3));
            } else {
                Due.is("is no call that can be read: " + line, line.startsWith("forms."), false);
            }
        }
        for (Method method : NormalForms.class.getMethods()) {
            if (method.getDeclaringClass() == NormalForms.class) {
                Due.is("README.md shows " + method.getName(), shown.contains(method.getName()), true);
            }
        }
        Due.end();
    }

    private static void answers(NormalForms forms, String name, String list, String want) throws Exception {
        Object[] arguments = list.isBlank() ? new Object[0]
            : Arrays.stream(list.split(",")).map(String::trim).map(Integer::valueOf).toArray();
        Class<?>[] types = new Class<?>[arguments.length];
        Arrays.fill(types, int.class);
        Method method = NormalForms.class.getMethod(name, types);
        Object got = method.invoke(forms, arguments);
        String call = name + "(" + list + ") answered " + got + ", README.md has " + want;
        Due.is(call, method.getReturnType() == void.class || want.equals(String.valueOf(got)), true);
    }
}
