import java.io.IOException;
import java.lang.reflect.Field;
import java.lang.reflect.Method;
import java.lang.reflect.Modifier;
import java.nio.file.Files;
import java.nio.file.Path;
import java.util.List;
import java.util.regex.Matcher;
import java.util.regex.Pattern;

/** Carries out the examples of README.md, each line of which tells the answer after its slashes; run in the project's folder. */
public final class KilnHeapReadme extends HeapTest {
    private static final Pattern NEW = Pattern.compile("KilnHeap heap = new KilnHeap\\((-?\\d+), (-?\\d+)\\);.*");
    private static final Pattern CALL = Pattern.compile("heap\\.(\\w+)\\(([-\\d, ]*)\\); +// (-?\\w+).*");

    private static void examples(List<String> readme) throws ReflectiveOperationException {
        part = "README.md";
        KilnHeap heap = null;
        int calls = 0;
        boolean inExample = false;
        for (String line : readme) {
            if (line.startsWith("```")) {
                inExample = line.equals("```java");
            } else if (inExample) {
                Matcher made = NEW.matcher(line);
                Matcher call = CALL.matcher(line);
                if (made.matches()) {
                    heap = new KilnHeap(Integer.parseInt(made.group(1)), Integer.parseInt(made.group(2)));
                } else if (heap != null && call.matches()) {
                    due(line, answer(heap, call.group(1), call.group(2)), told(call.group(3)));
                    calls++;
                } else {
                    due("a line that can't be carried out: " + line, 1, 0);
                }
            }
        }
        due("some calls were found", calls > 0 ? 1 : 0, 1);
    }

    private static long answer(KilnHeap heap, String name, String arguments) throws ReflectiveOperationException {
        String[] texts = arguments.isEmpty() ? new String[0] : arguments.split(", ");
        Class<?>[] types = new Class<?>[texts.length];
        Object[] numbers = new Object[texts.length];
        for (int i = 0; i < texts.length; i++) {
            types[i] = int.class;
            numbers[i] = Integer.valueOf(texts[i]);
        }
        Method method = KilnHeap.class.getMethod(name, types);
        return ((Number) method.invoke(heap, numbers)).longValue();
    }

    private static long told(String text) throws ReflectiveOperationException {
        if (Character.isUpperCase(text.charAt(0))) {
            return ((Number) KilnHeap.class.getField(text).get(null)).longValue();
        }
        return Long.parseLong(text);
    }

    private static void nothingLeftOut(String readme) {
        part = "README.md has the whole face";
        for (Method method : KilnHeap.class.getDeclaredMethods()) {
            if (Modifier.isPublic(method.getModifiers())) {
                due(method.getName(), readme.contains("| `" + method.getName() + "(") ? 1 : 0, 1);
            }
        }
        for (Field field : KilnHeap.class.getFields()) {
            due(field.getName(), readme.contains("`" + field.getName() + "`") ? 1 : 0, 1);
        }
    }

    public static void main(String[] args) throws IOException {
        List<String> readme = Files.readAllLines(Path.of("README.md"));
        run(() -> examples(readme));
        run(() -> nothingLeftOut(String.join("\n", readme)));
        end();
    }
}
