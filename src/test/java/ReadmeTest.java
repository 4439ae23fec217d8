import java.lang.reflect.Method;
import java.nio.file.Files;
import java.nio.file.Path;
import java.util.ArrayList;
import java.util.HashMap;
import java.util.List;
import java.util.Map;
import java.util.regex.Matcher;
import java.util.regex.Pattern;

/** README.md's examples are done as they stand there, and each answer is the one told behind it. */
public final class ReadmeTest {
    private static final Check CHECK = new Check("ReadmeTest");
    private static final Pattern BLOCK = Pattern.compile("(?s)```java\n(.*?)```");
    private static final Pattern MADE = Pattern.compile("StampOrder (\\w) = new StampOrder\\(\\);");
    private static final Pattern TOLD = Pattern.compile("(?s)StampOrder (\\w) = Check\\.told\\((.*?)\"\\);");
    private static final Pattern CALL = Pattern.compile("(\\w)\\.(\\w+)\\(([^)]*)\\); +// (-?[0-9]+).*");

    public static void main(String[] args) throws Exception {
        String page = Files.readString(Path.of("README.md"));
        Map<String, StampOrder> objects = new HashMap<>();
        Matcher block = BLOCK.matcher(page);
        while (block.find()) {
            runBlock(block.group(1), objects);
        }
        CHECK.due("examples, objects", objects.size(), 3);
        namesAllTests(page);
        CHECK.close();
    }

    private static void runBlock(String block, Map<String, StampOrder> objects) throws Exception {
        Matcher told = TOLD.matcher(block);
        String rest = block;
        while (told.find()) {
            String text = told.group(2).replaceAll("\"\\s*\\+\\s*\"", "").substring(1);
            objects.put(told.group(1), Check.told(text));
            rest = rest.replace(told.group(), "");
        }
        for (String line : rest.split("\n")) {
            Matcher made = MADE.matcher(line);
            Matcher call = CALL.matcher(line);
            if (made.matches()) {
                objects.put(made.group(1), new StampOrder());
            } else if (call.matches()) {
                CHECK.due("README.md: " + line, answer(objects.get(call.group(1)), call), Long.parseLong(call.group(4)));
            } else {
                CHECK.due("README.md, a line that can't be read: " + line, line.length(), 0);
            }
        }
    }

    private static long answer(StampOrder x, Matcher call) throws Exception {
        List<Object> with = new ArrayList<>();
        Method method = null;
        for (Method m : StampOrder.class.getMethods()) {
            method = m.getName().equals(call.group(2)) ? m : method;
        }
        for (String number : call.group(3).isEmpty() ? new String[0] : call.group(3).split(", ")) {
            long value = Long.decode(number);
            boolean wide = method.getParameterTypes()[with.size()] == long.class;
            with.add(wide ? (Object) value : (Object) (int) value);
        }
        return ((Number) method.invoke(x, with.toArray())).longValue();
    }

    private static void namesAllTests(String page) {
        String[] files = Path.of("src/test/java").toFile().list((folder, name) -> name.endsWith("Test.java"));
        CHECK.due("there are tests", files != null && files.length > 0 ? 1 : 0, 1);
        for (String file : files == null ? new String[0] : files) {
            String name = file.substring(0, file.length() - ".java".length());
            CHECK.due("README.md tells of " + name, page.contains("`" + name + "`") ? 1 : 0, 1);
        }
    }
}
