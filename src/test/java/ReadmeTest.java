import java.io.IOException;
import java.lang.reflect.Method;
import java.nio.file.Files;
import java.nio.file.Path;
import java.util.regex.Matcher;
import java.util.regex.Pattern;

/** The example in README.md: each call of it answers what stands behind it. */
public final class ReadmeTest {
    private static final Pattern CALL = Pattern.compile("x\\.(\\w+)\\((.*)\\); *// (true|false|-?\\d+).*");

    private static int calls;

    public static void main(String[] args) throws IOException, ReflectiveOperationException {
        CodeMachine x = new CodeMachine();
        for (String line : Files.readString(Path.of("README.md")).split("\n")) {
            Matcher call = CALL.matcher(line);
            if (call.matches()) {
                calls++;
                Due.is("README: " + line, answer(call.group(3)), answer(call(x, call.group(1), call.group(2))));
            } else {
                Due.is("a call that was not understood: " + line, false, line.startsWith("x."));
            }
        }
        Due.is("there is an example", true, calls > 20);
        Due.close();
    }

    private static long answer(String text) {
        return text.equals("true") ? 1 : text.equals("false") ? 0 : Long.parseLong(text);
    }

    private static String call(CodeMachine x, String name, String list) throws ReflectiveOperationException {
        String[] texts = list.isEmpty() ? new String[0] : list.split(", ");
        for (Method method : CodeMachine.class.getMethods()) {
            if (method.getName().equals(name) && method.getParameterCount() == texts.length) {
                Object[] values = new Object[texts.length];
                for (int n = 0; n < texts.length; n++) {
                    long value = Long.decode(texts[n]);
                    values[n] = method.getParameterTypes()[n] == long.class ? (Object) value : (Object) (int) value;
                }
                return String.valueOf(method.invoke(x, values));
            }
        }
        return "0";
    }
}
