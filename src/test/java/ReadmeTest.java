import java.io.IOException;
import java.lang.reflect.Method;
import java.lang.reflect.Modifier;
import java.nio.file.Files;
import java.nio.file.Path;
import java.util.Arrays;
import java.util.HashSet;
import java.util.Set;
import java.util.regex.Matcher;
import java.util.regex.Pattern;

/** README.md: each line of the example answers what it says, and the table has every call. */
public final class ReadmeTest {
    private static final Pattern EXAMPLE = Pattern.compile("```java\n(.*?)```", Pattern.DOTALL);
    private static final Pattern LINE = Pattern.compile("joins\\.(\\w+)\\(([^)]*)\\); +// ([^:]+): .+");
    private static final String MAKING = "JoinOrderer joins = new JoinOrderer();";

    private static final Due due = new Due();

    public static void main(String[] args) throws IOException, ReflectiveOperationException {
        String readme = Files.readString(Path.of("README.md"));
        Set<String> shown = runExample(readme);
        for (Method method : JoinOrderer.class.getDeclaredMethods()) {
            if (Modifier.isPublic(method.getModifiers())) {
                due.same("the example calls " + method.getName(), shown.contains(method.getName()), true);
                due.same("rows of the table for " + method.getName(), countRows(readme, method), 1);
            }
        }
        due.end();
    }

    private static Set<String> runExample(String readme) throws ReflectiveOperationException {
        Set<String> shown = new HashSet<>();
        Matcher example = EXAMPLE.matcher(readme);
        due.same("there is an example", example.find(), true);
        String[] lines = example.group(1).split("\n");
        due.same("it makes an object first", lines[0].startsWith(MAKING), true);
        JoinOrderer joins = new JoinOrderer();
        for (String text : Arrays.asList(lines).subList(1, lines.length)) {
            Matcher line = LINE.matcher(text);
            boolean readable = line.matches();
            due.same(text + " is a call with its answer", readable, true);
            if (readable) {
                shown.add(line.group(1));
                due.same(text + " is right", answer(joins, line.group(1), line.group(2)).equals(told(line.group(3))), true);
            }
        }
        return shown;
    }

    private static String answer(JoinOrderer joins, String name, String list) throws ReflectiveOperationException {
        Object[] arguments = Arrays.stream(list.split(", ")).map(ReadmeTest::number).toArray();
        Class<?>[] types = new Class<?>[arguments.length];
        Arrays.fill(types, int.class);
        return JoinOrderer.class.getMethod(name, types).invoke(joins, arguments).toString();
    }

    private static Integer number(String text) {
        return text.startsWith("0b") ? Integer.parseInt(text.substring(2), 2) : Integer.parseInt(text);
    }

    private static String told(String text) {
        return switch (text) {
            case "JoinOrderer.NONE" -> "-4";
            case "JoinOrderer.BAD_ARG" -> "-1";
            default -> text;
        };
    }

    private static int countRows(String readme, Method method) {
        String row = "| `" + method.getName() + "(";
        return (int) readme.lines()
                .filter(line -> line.startsWith(row))
                .filter(line -> line.substring(0, line.indexOf(')')).split(", ").length == method.getParameterCount())
                .count();
    }
}
