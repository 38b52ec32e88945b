import java.io.IOException;
import java.lang.reflect.Field;
import java.lang.reflect.Method;
import java.lang.reflect.Modifier;
import java.nio.file.Files;
import java.nio.file.Path;
import java.util.ArrayList;
import java.util.List;
import java.util.regex.Matcher;
import java.util.regex.Pattern;

/** README.md: its examples answer what they say they do, and no call and no constant is left out. */
public final class ReadmeTest {
    private static final Pattern EXAMPLE = Pattern.compile("(?s)```java\n(.*?)```");
    private static final Pattern CALL = Pattern.compile("x\\.(\\w+)\\(([^)]*)\\); +// (\\S+).*");
    private static final String MAKING = "BackAndForth x = new BackAndForth();";

    public static void main(String[] args) throws IOException {
        String text = Files.readString(Path.of("README.md"));
        Report.sentence("README.md: how to use the class", () -> examples(text));
        Report.sentence("README.md: what its calls are for, what the answers mean", () -> names(text));
        Report.end();
    }

    private static void examples(String text) {
        int found = 0;
        Matcher example = EXAMPLE.matcher(text);
        while (example.find()) {
            found++;
            example(example.group(1).lines().filter(line -> !line.isBlank()).toList());
        }
        Report.must("there are examples", found > 0);
    }

    private static void example(List<String> lines) {
        Report.must("an example begins with a new object: " + lines.get(0), lines.get(0).equals(MAKING));
        BackAndForth x = new BackAndForth();
        for (String line : lines.subList(1, lines.size())) {
            Matcher call = CALL.matcher(line);
            boolean isCall = call.matches();
            Report.must("a call and its answer: " + line, isCall);
            if (isCall) {
                Report.due(line, answer(x, call.group(1), call.group(2)), meant(call.group(3)));
            }
        }
    }

    private static int answer(BackAndForth x, String name, String arguments) {
        List<Object> values = new ArrayList<>();
        List<Class<?>> types = new ArrayList<>();
        for (String argument : arguments.isEmpty() ? new String[0] : arguments.split(", ")) {
            values.add(Integer.valueOf(argument));
            types.add(int.class);
        }
        try {
            Method method = BackAndForth.class.getMethod(name, types.toArray(new Class<?>[0]));
            return (Integer) method.invoke(x, values.toArray());
        } catch (ReflectiveOperationException e) {
            throw new IllegalStateException(name + "(" + arguments + ")", e);
        }
    }

    /** The number, or the constant, that the words stand for. */
    private static int meant(String words) {
        if (words.matches("-?[0-9]+")) {
            return Integer.parseInt(words);
        }
        try {
            return BackAndForth.class.getField(words).getInt(null);
        } catch (ReflectiveOperationException e) {
            throw new IllegalStateException(words, e);
        }
    }

    private static void names(String text) {
        for (Method method : BackAndForth.class.getDeclaredMethods()) {
            if (Modifier.isPublic(method.getModifiers())) {
                Report.must(method.getName() + " has a row", text.contains("\n| `" + method.getName() + "("));
            }
        }
        for (Field field : BackAndForth.class.getFields()) {
            Report.must(field.getName() + " is told", text.contains("`" + field.getName() + "`"));
        }
    }
}
