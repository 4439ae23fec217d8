import java.io.IOException;
import java.nio.file.Files;
import java.nio.file.Path;
import java.util.LinkedHashMap;
import java.util.Map;
import java.util.regex.Matcher;
import java.util.regex.Pattern;

/** Tests sentence by sentence: each test quotes the words of the document without which it would fail. */
final class Sentences {
    /** What a boundary case is told with: whoever tests a part has to quote all of these. */
    private static final Pattern BOUNDARY = Pattern.compile("[0-9]|NONE|likewise");

    private final String name;
    private final Check check;
    private final Map<String, String> parts = new LinkedHashMap<>();
    private final Map<String, boolean[]> quoted = new LinkedHashMap<>();
    private String part = "";
    private String words = "";
    private int answers = 1;

    /** Of the project's folder, as .ci/run starts the tests. */
    Sentences(String name) {
        this.name = name;
        check = new Check(name);
        String doc = read();
        int terms = doc.indexOf("## Terms");
        int promises = doc.indexOf("## Promise 1:");
        takeParts(doc.substring(0, terms), Pattern.compile("(?m)^## (.*)$"), "");
        takeParts(doc.substring(terms, promises), Pattern.compile("(?m)^(I|II|III|IV|V|VI)\\. "), "");
        int rest = doc.indexOf("## Not promised");
        takeParts(doc.substring(promises, rest), Pattern.compile("(?m)^## Promise (\\d+): .*\\n\\n`[^`]*`: "), "Promise ");
    }

    private static String read() {
        try {
            return Files.readString(Path.of("../shared/DOC.md"));
        } catch (IOException e) {
            throw new IllegalStateException("the tests are run in the project's folder", e);
        }
    }

    private void takeParts(String text, Pattern head, String kind) {
        Matcher m = head.matcher(text);
        int from = 0;
        String last = "";
        while (m.find()) {
            put(last, text.substring(from, m.start()));
            last = kind + m.group(1);
            from = m.end();
        }
        put(last, text.substring(from));
    }

    private void put(String key, String text) {
        if (!key.isEmpty()) {
            parts.put(key, text.replaceAll("(?m)^```.*$", "").replaceAll("\\s+", " ").trim());
        }
    }

    /** What is quoted next stands under this one: a heading, or a number of Terms ("II"). */
    void term(String heading) {
        open(heading);
    }

    void promise(int number) {
        open("Promise " + number);
    }

    private void open(String key) {
        part = key;
        check.due("the document has " + key, parts.containsKey(key) ? 1 : 0, 1);
        quoted.putIfAbsent(key, new boolean[parts.getOrDefault(key, "").length()]);
    }

    /** The answers that follow are due by these words. */
    void says(String quote) {
        check.due(part + " «" + words + "» is tested", answers > 0 ? 1 : 0, 1);
        words = quote;
        answers = 0;
        String text = parts.getOrDefault(part, "");
        int at = text.indexOf(quote);
        check.due(part + " says «" + quote + "»", at >= 0 ? 1 : 0, 1);
        boolean[] marks = quoted.get(part);
        for (int i = at; at >= 0 && i < at + quote.length(); i++) {
            marks[i] = true;
        }
    }

    void due(String call, long got, long want) {
        answers++;
        check.due(part + " «" + words + "»: " + call, got, want);
    }

    /** An OFFICE of so many LINES, without a FAULT. */
    void fine(String text, int lines) {
        StampOrder x = new StampOrder();
        Check.type(x, text);
        due("office() of " + text, x.office(), lines);
        due("fault(0) of " + text, x.fault(0), 0);
        due("fault(1) of " + text, x.fault(1), -1);
    }

    /** A FAULT at the place that is marked with ^. */
    void fault(int kind, String marked) {
        int place = marked.indexOf('^');
        fault(kind, place, marked.substring(0, place) + marked.substring(place + 1));
    }

    void fault(int kind, int place, String text) {
        StampOrder x = new StampOrder();
        Check.type(x, text);
        due("office() of " + text, x.office(), -4);
        due("fault(0) of " + text, x.fault(0), kind);
        due("fault(1) of " + text, x.fault(1), place);
    }

    /** Ends the test; every boundary case of the parts that were opened must have been quoted. */
    void close() {
        says("");
        for (Map.Entry<String, boolean[]> e : quoted.entrySet()) {
            StringBuilder rest = new StringBuilder();
            for (int i = 0; i < e.getValue().length; i++) {
                rest.append(e.getValue()[i] ? '|' : parts.get(e.getKey()).charAt(i));
            }
            boolean left = BOUNDARY.matcher(rest).find();
            check.due(name + " leaves out of " + e.getKey() + ": " + rest.toString().replaceAll("\\|+", "|"),
                    left ? 1 : 0, 0);
        }
        check.close();
    }
}
