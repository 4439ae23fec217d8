import java.lang.reflect.Field;
import java.lang.reflect.Method;
import java.lang.reflect.Modifier;
import java.nio.file.Files;
import java.nio.file.Path;
import java.util.ArrayList;
import java.util.List;
import java.util.Set;
import java.util.TreeSet;
import java.util.regex.Matcher;
import java.util.regex.Pattern;

/** What of LANGUAGE.md, and of the document's face, can be seen from outside the class; run in the project's folder. */
public final class LanguageTest {
    private static final Check CHECK = new Check("LanguageTest");
    private static final int MOST_LINES = 60;
    private static final int MOST_CLASSES = 13;
    private static final int MOST_FIELDS = 22;

    public static void main(String[] args) throws Exception {
        String source = Files.readString(Path.of("src/main/java/StampOrder.java"));
        String doc = Files.readString(Path.of("../shared/DOC.md"));
        face(doc);
        classes();
        words(source);
        methods(source);
        CHECK.close();
    }

    private static void isTrue(String what, boolean is) {
        CHECK.due(what, is ? 1 : 0, 1);
    }

    /** Rule 1: the methods that the document lists, and no other that can be seen. */
    private static void face(String doc) {
        Set<String> want = new TreeSet<>();
        Matcher m = Pattern.compile("    public (int|long) (\\w+)\\(([^)]*)\\);").matcher(doc);
        while (m.find()) {
            want.add(m.group(1) + " " + m.group(2) + "(" + m.group(3).replaceAll(" \\w+(,|$)", "$1").trim() + ")");
        }
        isTrue("the document lists methods", !want.isEmpty());
        Set<String> got = new TreeSet<>();
        Set<String> hidden = new TreeSet<>();
        for (Method method : StampOrder.class.getDeclaredMethods()) {
            List<String> types = new ArrayList<>();
            for (Class<?> type : method.getParameterTypes()) {
                types.add(type.getName());
            }
            if (Modifier.isPrivate(method.getModifiers())) {
                hidden.add(method.getName());
            } else {
                isTrue(method + " is public and not static", (method.getModifiers() & 15) == Modifier.PUBLIC);
                got.add(method.getReturnType() + " " + method.getName() + "(" + String.join(", ", types) + ")");
            }
        }
        isTrue("the face is " + want + "\n but it shows " + got, want.equals(got));
        for (Class<?> inside : StampOrder.class.getDeclaredClasses()) {
            for (Method method : inside.getDeclaredMethods()) {
                hidden.add(method.getName());
            }
        }
        for (Method method : StampOrder.class.getMethods()) {
            isTrue(method.getName() + " is no private name", !hidden.contains(method.getName()));
        }
        isTrue("one constructor", StampOrder.class.getDeclaredConstructors().length == 1);
    }

    /** Rules 1, 2, 5 and 11: classes inside are static; fields are private, static ones constants. */
    private static void classes() {
        isTrue("final", Modifier.isFinal(StampOrder.class.getModifiers()));
        Class<?>[] inside = StampOrder.class.getDeclaredClasses();
        isTrue("few classes", inside.length + 1 <= MOST_CLASSES);
        for (Class<?> c : inside) {
            isTrue(c + " is static", Modifier.isStatic(c.getModifiers()));
            isTrue(c + " is private", Modifier.isPrivate(c.getModifiers()));
            isTrue(c + " has few fields", fields(c) <= MOST_FIELDS);
        }
        isTrue("few fields", fields(StampOrder.class) <= MOST_FIELDS);
        for (Field field : StampOrder.class.getDeclaredFields()) {
            boolean none = field.getName().equals("NONE");
            isTrue(field + " is private", none || Modifier.isPrivate(field.getModifiers()));
        }
    }

    private static int fields(Class<?> c) {
        int many = 0;
        for (Field field : c.getDeclaredFields()) {
            if (Modifier.isStatic(field.getModifiers())) {
                isTrue(field + " is final", Modifier.isFinal(field.getModifiers()));
                isTrue(field + " is a number", field.getType() == int.class);
            } else {
                many++;
            }
        }
        return many;
    }

    /** Rules 4, 6 and 13: what is not written at all. */
    private static void words(String source) {
        String bare = source.replaceAll("(?s)/\\*.*?\\*/", "").replaceAll("//[^\n]*", "");
        for (String word : new String[] {"throw", "throws", "try", "catch", "finally", "synchronized", "assert",
            "instanceof", "goto", "System\\.out", "System\\.nano", "System\\.current", "Random", "Thread", "equals",
            "hashCode", "toString", "Object", "String\\.", "Exact", "package", "protected", "lambda"}) {
            isTrue("no " + word, !Pattern.compile("\\b" + word + "\\b").matcher(bare).find());
        }
        isTrue("no arrow", !bare.contains("->"));
        isTrue("no method reference", !bare.contains("::"));
        isTrue("plain signs", bare.chars().allMatch(c -> c < 128));
        Matcher imports = Pattern.compile("(?m)^import (.*);").matcher(bare);
        while (imports.find()) {
            CHECK.due("import " + imports.group(1), imports.group(1).equals("java.util.Arrays") ? 1 : 0, 1);
        }
        Matcher calls = Pattern.compile("\\b(Arrays|Math|Integer|Long|System)\\.(\\w+)").matcher(bare);
        while (calls.find()) {
            isTrue(calls.group() + " is in the library",
                    Set.of("fill", "copyOf", "copyOfRange", "max", "min", "abs", "bitCount", "arraycopy")
                            .contains(calls.group(2)));
        }
    }

    /** Rule 11: methods are short and take at most seven parameters. */
    private static void methods(String source) {
        String[] lines = source.split("\n");
        Pattern head = Pattern.compile("^( +)(public |private )?(static )?[\\w\\[\\]]+ ?\\w*\\(([^)]*)\\) \\{$");
        for (int i = 0; i < lines.length; i++) {
            Matcher m = head.matcher(lines[i]);
            if (m.find() && !lines[i].contains(" if (") && !lines[i].contains(" for (") && !lines[i].contains("while (")
                    && !lines[i].contains("switch (")) {
                int end = i;
                while (!lines[end].equals(m.group(1) + "}")) {
                    end++;
                }
                isTrue(lines[i].trim() + " is short", end - i + 1 <= MOST_LINES);
                isTrue(lines[i].trim() + " takes few", m.group(4).split(",").length <= 7);
            }
        }
    }
}
