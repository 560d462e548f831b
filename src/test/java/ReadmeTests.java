import java.io.IOException;
import java.lang.reflect.Method;
import java.lang.reflect.Modifier;
import java.nio.file.Files;
import java.nio.file.Path;
import java.util.regex.Matcher;
import java.util.regex.Pattern;

/** What README.md tells of the class holds: each call of its example answers as it says, and each promise has its call. */
public final class ReadmeTests {
    private static final Pattern CALL = Pattern.compile("(?m)^ring\\.(\\w+)\\(([^)]*)\\);\\s*// (-?\\d+)(?: .*)?$");
    private static final Pattern TABLE_ROW = Pattern.compile("(?m)^\\|[^|]*\\|([^|(]*)\\((\\d[^)]*)\\) \\|$");
    private static final Pattern PROMISE = Pattern.compile("(?m)^## Promise (\\d+): (\\w+)$");

    private ReadmeTests() {
    }

    public static void main(String[] args) throws ReflectiveOperationException, IOException {
        String readme = Files.readString(Path.of("README.md"));
        example(readme.substring(readme.indexOf("```java"), readme.lastIndexOf("```")));
        Path document = Path.of("../shared/DOC.md");
        if (Files.isReadable(document)) {
            table(readme, Files.readString(document));
        }
        classes(readme);
        Check.close("ReadmeTests");
    }

    private static void example(String code) throws ReflectiveOperationException {
        FrostRing ring = new FrostRing();
        Matcher m = CALL.matcher(code);
        int calls = 0;
        while (m.find()) {
            calls++;
            String call = m.group(1) + "(" + m.group(2) + ")";
            Check.due("README.md, call " + calls + ", " + call, answer(ring, m.group(1), m.group(2)), Long.parseLong(m.group(3)));
        }
        Check.due("README.md, lines of the example that call the ring", calls, code.split("ring\\.", -1).length - 1);
    }

    private static long answer(FrostRing ring, String name, String args) throws ReflectiveOperationException {
        String[] words = args.isEmpty() ? new String[0] : args.split(", ");
        for (Method m : FrostRing.class.getDeclaredMethods()) {
            if (!m.getName().equals(name) || !Modifier.isPublic(m.getModifiers())) {
                continue;
            }
            Object[] values = new Object[words.length];
            for (int i = 0; i < words.length; i++) {
                long v = Long.decode(words[i]);
                values[i] = m.getParameterTypes()[i] == long.class ? (Object) v : (Object) (int) v;
            }
            return ((Number) m.invoke(ring, values)).longValue();
        }
        throw new NoSuchMethodException(name);
    }

    /** The numbers of the table's rows are those of the document, and no promise is left out. */
    private static void table(String readme, String document) {
        String[] rows = new String[37];
        Matcher m = TABLE_ROW.matcher(readme);
        while (m.find()) {
            String[] calls = m.group(1).trim().split(", ");
            int first = Integer.parseInt(m.group(2).replaceFirst("\\D.*", ""));
            int last = Integer.parseInt(m.group(2).replaceFirst(".*\\D", ""));
            Check.due("README.md, calls of the row (" + m.group(2) + ")", calls.length, last - first + 1);
            for (int i = 0; i < calls.length; i++) {
                rows[first + i] = calls[i];
            }
        }
        m = PROMISE.matcher(document);
        int promises = 0;
        while (m.find()) {
            promises++;
            String told = rows[Integer.parseInt(m.group(1))];
            Check.due("README.md tells promise " + m.group(1) + " as " + told, ("`" + m.group(2) + "`").equals(told), true);
        }
        Check.due("promises with a call", promises, 35);
    }

    /** README.md names every class of tests, and none that there is not. */
    private static void classes(String readme) throws IOException {
        try (var files = Files.list(Path.of("src/test/java"))) {
            for (Path file : (Iterable<Path>) files::iterator) {
                String name = file.getFileName().toString().replace(".java", "");
                Check.due("README.md names " + name, readme.contains(name), true);
            }
        }
        Matcher m = Pattern.compile("`(\\w+(?:Tests|Runs|Sentences))`").matcher(readme);
        while (m.find()) {
            Check.due("there is a " + m.group(1), Files.exists(Path.of("src/test/java", m.group(1) + ".java")), true);
        }
    }
}
