import java.io.IOException;
import java.lang.reflect.Method;
import java.lang.reflect.Modifier;
import java.nio.file.Files;
import java.nio.file.Path;
import java.util.regex.Matcher;
import java.util.regex.Pattern;

/** Makes the calls that stand in README.md, in their order, on one object: the page must not tell what isn't so. */
public final class ReadmeTest {
    private static final Pattern TEXT = Pattern.compile("```text\n(.*?)\n```", Pattern.DOTALL);
    private static final Pattern TOLD = Pattern.compile("^tell\\(wall, (text|\".*\")\\); +// (\\S+?)(:.*)?$");
    private static final Pattern CALL = Pattern.compile("^wall\\.(\\w+)\\((.*)\\); +// (\\S+?)(:.*)?$");
    private static final int FEWEST_CALLS = 60;

    private final Check check = new Check();
    private final PaintedOver wall = new PaintedOver();
    private String text = "";
    private int calls;

    public static void main(String[] args) throws IOException, ReflectiveOperationException {
        ReadmeTest test = new ReadmeTest();
        String page = Files.readString(Path.of("README.md"));
        test.readText(page);
        for (String line : page.split("\n")) {
            test.run(line);
        }
        test.check.due("enough calls were found", test.calls >= FEWEST_CALLS, true);
        test.namesAll(page);
        test.check.end("ReadmeTest");
    }

    /** The page has the text on several lines; blanks join them. */
    private void readText(String page) {
        Matcher found = TEXT.matcher(page);
        check.due("a text stands on the page", found.find(), true);
        text = found.group(1).replace('\n', ' ');
    }

    private void run(String line) throws ReflectiveOperationException {
        Matcher told = TOLD.matcher(line);
        Matcher call = CALL.matcher(line);
        if (told.matches()) {
            String which = told.group(1);
            calls++;
            check.due(line, Check.tell(wall, which.equals("text") ? text : which.replace("\"", "")), number(told.group(2)));
        } else if (call.matches()) {
            calls++;
            check.due(line, answer(call.group(1), call.group(2)), number(call.group(3)));
        } else {
            check.due("a call without an answer: " + line, line.startsWith("wall.") || line.startsWith("tell("), false);
        }
    }

    private long answer(String name, String list) throws ReflectiveOperationException {
        String[] words = list.isEmpty() ? new String[0] : list.split(", ");
        Object[] arguments = new Object[words.length];
        for (int i = 0; i < words.length; i++) {
            arguments[i] = words[i].matches("true|false") ? (Object) Boolean.valueOf(words[i]) : (Object) Integer.valueOf(words[i]);
        }
        for (Method method : PaintedOver.class.getDeclaredMethods()) {
            if (method.getName().equals(name) && Modifier.isPublic(method.getModifiers())) {
                return number(String.valueOf(method.invoke(wall, arguments)));
            }
        }
        throw new IllegalStateException("there is no call " + name);
    }

    private static long number(String answer) {
        return answer.equals("true") ? 1 : answer.equals("false") ? 0 : Long.parseLong(answer);
    }

    private void namesAll(String page) {
        for (Method method : PaintedOver.class.getDeclaredMethods()) {
            if (Modifier.isPublic(method.getModifiers())) {
                boolean named = page.contains("`" + method.getName() + "`") || page.contains(method.getName() + "(");
                check.due("the page tells of " + method.getName(), named, true);
            }
        }
    }
}
