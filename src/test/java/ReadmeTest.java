import java.io.IOException;
import java.lang.reflect.Method;
import java.nio.file.Files;
import java.nio.file.Path;
import java.util.HashMap;
import java.util.Map;
import java.util.regex.Matcher;
import java.util.regex.Pattern;

/** Makes the calls that README.md shows: each answers what its remark begins with. */
public final class ReadmeTest {
    private static final Pattern CALL = Pattern.compile(
            "(?:int (\\w+) = )?k\\.(\\w+)\\((.*?)\\); *// (-?\\d+|'.'|[A-Z]+).*");
    private static final int LEAST_CALLS = 30;

    private final NumberKeeper keeper = new NumberKeeper();
    private final Map<String, Integer> names = new HashMap<>();
    private int calls;
    private int wrong;

    private ReadmeTest() {
        names.put("NONE", NumberKeeper.NONE);
        names.put("RANGE", NumberKeeper.RANGE);
        names.put("FULL", NumberKeeper.FULL);
    }

    public static void main(String[] args) throws IOException, ReflectiveOperationException {
        String page = Files.readString(Path.of("README.md"));
        Matcher block = Pattern.compile("(?s)```java\n(.*?)```").matcher(page);
        ReadmeTest test = new ReadmeTest();
        while (block.find()) {
            for (String line : block.group(1).split("\n")) {
                test.follow(line);
            }
        }
        // A page whose calls are no longer found must not look like one that is right.
        boolean isShort = test.calls < LEAST_CALLS;
        System.out.println("ReadmeTest: " + test.calls + " calls, " + test.wrong + " wrong");
        if (isShort || test.wrong != 0) {
            System.exit(1);
        }
    }

    private void follow(String line) throws ReflectiveOperationException {
        if (line.isBlank() || line.startsWith("//") || line.equals("NumberKeeper k = new NumberKeeper();")) {
            return;
        }
        Matcher call = CALL.matcher(line);
        if (!call.matches()) {
            tellWrong(line, "can't be read");
            return;
        }
        calls++;
        int got = answer(call.group(2), call.group(3));
        if (got != value(call.group(4))) {
            tellWrong(line, "answered " + got);
        }
        if (call.group(1) != null) {
            names.put(call.group(1), got);
        }
    }

    private void tellWrong(String line, String what) {
        wrong++;
        System.out.println("ReadmeTest: " + line + " " + what);
    }

    private int answer(String call, String list) throws ReflectiveOperationException {
        String[] texts = list.isEmpty() ? new String[0] : list.split(", ");
        Object[] values = new Object[texts.length];
        Class<?>[] types = new Class<?>[texts.length];
        for (int i = 0; i < texts.length; i++) {
            values[i] = value(texts[i]);
            types[i] = int.class;
        }
        Method method = NumberKeeper.class.getMethod(call, types);
        return (Integer) method.invoke(keeper, values);
    }

    private int value(String text) {
        String plain = text.replace("NumberKeeper.", "");
        Integer named = names.get(plain);
        if (named != null) {
            return named;
        }
        return plain.startsWith("'") ? plain.charAt(1) : Integer.decode(plain);
    }
}
