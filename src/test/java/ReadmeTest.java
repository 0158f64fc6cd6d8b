import java.io.IOException;
import java.lang.reflect.Method;
import java.nio.file.Files;
import java.nio.file.Path;
import java.util.regex.Matcher;
import java.util.regex.Pattern;

/** README.md: its example answers what stands beside each call, and it names every call of the face. */
public final class ReadmeTest {
    private static final Pattern CALL = Pattern.compile("x\\.(\\w+)\\(([^)]*)\\);\\s*// (-?\\d+)(?!\\d).*");

    public static void main(String[] args) throws IOException, ReflectiveOperationException {
        String text = Files.readString(Path.of("README.md"));
        example(text);
        everyCall(text);
        Check.end("ReadmeTest");
    }

    private static void example(String text) throws ReflectiveOperationException {
        String block = text.substring(text.indexOf("```java") + 7, text.lastIndexOf("```")).trim();
        String[] lines = block.split("\n");
        Check.holds("the example makes an object first", lines[0].equals("PeopleLands x = new PeopleLands();"));
        PeopleLands x = new PeopleLands();
        for (int i = 1; i < lines.length; i++) {
            Matcher call = CALL.matcher(lines[i]);
            Check.holds("a call with its answer: " + lines[i], call.matches());
            if (call.matches()) {
                int want = Integer.parseInt(call.group(3));
                int got = answer(x, call.group(1), call.group(2).isEmpty() ? new String[0] : call.group(2).split(", "));
                Check.holds(lines[i] + " (answered " + got + ")", got == want);
            }
        }
    }

    private static int answer(PeopleLands x, String name, String[] told) throws ReflectiveOperationException {
        for (Method method : PeopleLands.class.getMethods()) {
            if (method.getName().equals(name)) {
                Object[] values = new Object[told.length];
                for (int i = 0; i < told.length; i++) {
                    boolean isFlag = method.getParameterTypes()[i] == boolean.class;
                    values[i] = isFlag ? (Object) Boolean.valueOf(told[i]) : (Object) Integer.valueOf(told[i]);
                }
                return (Integer) method.invoke(x, values);
            }
        }
        throw new NoSuchMethodException(name);
    }

    private static void everyCall(String text) {
        for (Method method : PeopleLands.class.getMethods()) {
            if (method.getDeclaringClass() == PeopleLands.class) {
                Check.holds("README.md names " + method.getName(), text.contains("`" + method.getName() + "`"));
            }
        }
    }
}
