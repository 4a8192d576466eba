import java.io.File;
import java.io.IOException;
import java.lang.reflect.Method;
import java.lang.reflect.Modifier;
import java.nio.file.Files;
import java.nio.file.Path;
import java.util.Arrays;
import java.util.regex.Matcher;
import java.util.regex.Pattern;

/** README.md: its example answers what it says, its tables leave out no call and no test. */
public final class ReadmeTest {
    public static void main(String[] args) throws IOException, ReflectiveOperationException {
        String page = Files.readString(Path.of("README.md"));
        example(page);
        everyCall(page);
        everyTest(page);
        refusals(page);
        Due.end();
    }

    private static void example(String page) throws ReflectiveOperationException {
        Matcher village = Pattern.compile("String village = \"([^\"]*)\";").matcher(page);
        Due.is("the page has a village", village.find() ? 1 : 0, 1);
        EmptyHouse x = new EmptyHouse();
        Due.write(x, 0, village.group(1));
        Matcher line = Pattern.compile("(?m)^x\\.(\\w+)\\(([-0-9, ]*)\\); +// (-?\\d+):").matcher(page);
        int lines = 0;
        while (line.find()) {
            lines++;
            Due.is("README: " + line.group(), answer(x, line.group(1), line.group(2)), Long.parseLong(line.group(3)));
        }
        Due.is("lines of the example that tell an answer", lines, page.split("\nx\\.").length - 1 - 1);
    }

    private static long answer(EmptyHouse x, String name, String numbers) throws ReflectiveOperationException {
        Object[] arguments = Pattern.compile("-?\\d+").matcher(numbers).results()
            .map(number -> (Object) Integer.valueOf(number.group())).toArray();
        Class<?>[] types = new Class<?>[arguments.length];
        Arrays.fill(types, int.class);
        return ((Number) EmptyHouse.class.getMethod(name, types).invoke(x, arguments)).longValue();
    }

    private static void everyCall(String page) {
        String table = page.substring(page.indexOf("### Calls"), page.indexOf("### What is refused"));
        int calls = 0;
        for (Method method : EmptyHouse.class.getDeclaredMethods()) {
            if (Modifier.isPublic(method.getModifiers())) {
                calls++;
                Due.is(method.getName() + " stands in the table", table.contains("`" + method.getName() + "`") ? 1 : 0, 1);
            }
        }
        Due.is("names in the table", Pattern.compile("`\\w+`").matcher(table).results().count(), calls);
    }

    private static void everyTest(String page) {
        File[] files = new File("src/test/java").listFiles((folder, name) -> name.endsWith("Test.java"));
        Due.is("there are tests", files != null && files.length > 0 ? 1 : 0, 1);
        for (File file : files) {
            String name = file.getName().replace(".java", "");
            Due.is(name + " stands in the table", page.contains("\n| `" + name + "` |") ? 1 : 0, 1);
        }
        Due.is("tests in the table", Pattern.compile("\n\\| `\\w+Test` \\|").matcher(page).results().count(),
            files.length);
    }

    private static void refusals(String page) throws ReflectiveOperationException {
        for (String name : new String[] {"BAD", "FULL", "FINDING", "STATE", "SPENT", "NONE"}) {
            int value = EmptyHouse.class.getField(name).getInt(null);
            Due.is(name + " stands with its number", page.contains("`" + name + "` " + value) ? 1 : 0, 1);
        }
    }
}
