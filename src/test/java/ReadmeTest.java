import java.io.IOException;
import java.lang.reflect.Method;
import java.lang.reflect.Modifier;
import java.nio.file.Files;
import java.nio.file.Path;
import java.util.regex.Matcher;
import java.util.regex.Pattern;

/** What README.md says: its example answers as it tells, and no call of the face is missing in it. */
final class ReadmeTest {
    private static final Pattern CALL = Pattern.compile("(?m)^show\\.(\\w+)\\((.*?)\\); *// (-?\\w+)");

    private ReadmeTest() {
    }

    public static void main(String[] args) throws IOException, ReflectiveOperationException {
        String page = Files.readString(Path.of("README.md"));
        example(page);
        names(page);
        Check.end("ReadmeTest");
    }

    private static void example(String page) throws ReflectiveOperationException {
        CattleShow show = new CattleShow();
        Matcher call = CALL.matcher(page);
        int calls = 0;
        while (call.find()) {
            Object answer = answerOf(show, call.group(1), call.group(2).split(", "));
            Check.due(call.group() + ", answered " + answer, answer.toString().equals(call.group(3)), true);
            calls++;
        }
        Check.due("each line of the example", calls, page.lines().filter(line -> line.startsWith("show.")).count());
        Check.due("there is an example", calls > 0, true);
    }

    private static Object answerOf(CattleShow show, String name, String[] numbers) throws ReflectiveOperationException {
        Class<?>[] types = new Class<?>[numbers.length];
        Object[] values = new Object[numbers.length];
        for (int i = 0; i < numbers.length; i++) {
            types[i] = int.class;
            values[i] = Integer.decode(numbers[i]);
        }
        return CattleShow.class.getMethod(name, types).invoke(show, values);
    }

    private static void names(String page) {
        for (Method method : CattleShow.class.getDeclaredMethods()) {
            if (Modifier.isPublic(method.getModifiers())) {
                Check.due("names " + method.getName(), page.contains("`" + method.getName() + "("), true);
            }
        }
    }
}
