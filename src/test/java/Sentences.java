import java.io.IOException;
import java.nio.file.Files;
import java.nio.file.Path;
import java.util.ArrayList;
import java.util.List;

/**
 * The sentences of the document. Each test says first which promise and which sentence it holds; a
 * sentence must stand in the document as the test has it, and none of the Terms and the promises
 * may be left at the end that no test has named.
 */
final class Sentences {
    private static final Path DOCUMENT = Path.of("../shared/DOC.md");

    private static final class Section {
        final String title;
        final String words;
        final boolean[] named;

        Section(String title, String words) {
            this.title = title;
            this.words = words;
            this.named = new boolean[words.length()];
        }

        boolean name(String sentence) {
            int at = words.indexOf(sentence);
            for (int i = 0; at >= 0 && i < sentence.length(); i++) {
                named[at + i] = true;
            }
            return at >= 0;
        }

        String unnamed() {
            StringBuilder rest = new StringBuilder();
            for (int i = 0; i < named.length; i++) {
                rest.append(named[i] ? '\n' : words.charAt(i));
            }
            return rest.toString().replaceAll("[\n ]+", " ").trim();
        }
    }

    private static final List<Section> SECTIONS = read();
    private static String label = "";
    private static int answers = 1;
    private static int tests = 0;

    private Sentences() {
    }

    /** A test begins: all answers that are due from here on hold this sentence. */
    static void holds(int promise, String sentence) {
        Check.due(label + "has a test", answers > 0, true);
        label = "promise " + promise + ", \"" + sentence + "\": ";
        answers = 0;
        tests++;
        boolean found = SECTIONS.isEmpty();
        for (Section s : SECTIONS) {
            boolean own = s.title.startsWith("Promise " + promise + ":");
            found = found || own && s.name(sentence);
        }
        for (Section s : SECTIONS) {
            found = found || !s.title.startsWith("Promise") && s.name(sentence);
        }
        Check.due(label + "stands in the document", found, true);
    }

    static void due(String call, long got, long want) {
        answers++;
        Check.due(label + call, got, want);
    }

    static void due(String call, boolean got, boolean want) {
        due(call, got ? 1 : 0, want ? 1 : 0);
    }

    /** Nothing that a call can tell is other than it was. */
    static void same(String call, List<Integer> got, List<Integer> want) {
        due(call, got.equals(want), true);
    }

    static void close(String name) {
        Check.due(label + "has a test", answers > 0, true);
        for (Section s : SECTIONS) {
            boolean counts = s.title.startsWith("Promise") || s.title.equals("Terms");
            boolean whole = !s.unnamed().matches("(?s).*[a-zA-Z0-9].*");
            Check.due("no test names, in " + s.title + ", this: " + s.unnamed(), !counts || whole, true);
        }
        Check.close(name + ", " + tests + " tests");
    }

    /** Where the document is not at hand the tests run all the same. */
    private static List<Section> read() {
        List<Section> all = new ArrayList<>();
        if (!Files.isReadable(DOCUMENT)) {
            return all;
        }
        String[] parts;
        try {
            parts = Files.readString(DOCUMENT).split("\n## ");
        } catch (IOException e) {
            throw new IllegalStateException(e);
        }
        for (String part : parts) {
            String title = part.substring(0, part.indexOf('\n'));
            String words = part.substring(title.length()).replaceAll("```\\w*", " ").replaceAll("\\s+", " ").trim();
            all.add(new Section(title.trim(), words.replaceFirst("^`[^`]*`:", "")));
        }
        return all;
    }

    /** All that calls can tell of a ring without changing it, the TAPE and SLOTS aside. */
    static List<Integer> look(FrostRing r) {
        List<Integer> all = new ArrayList<>();
        for (int c = 0; c < 6 * 144; c++) {
            all.add(r.cell(c / 6 % 12, c / 72, c % 6));
        }
        for (int i = 0; i < 6; i++) {
            all.add(r.heat(i));
        }
        for (int i = 0; i < 6 * 13; i++) {
            all.add(r.pipe(i / 6, i % 6));
        }
        for (int i = 0; i < 3 * 7; i++) {
            all.add(r.house(i / 3, i % 3));
        }
        for (int i = 0; i < 13; i++) {
            all.add(i == 6 || i == 10 ? 0 : r.count(i));
        }
        for (int i = 0; i < 12; i++) {
            all.add(r.lift(i));
            all.add(r.frost(i));
            all.add(r.lacks(i));
        }
        for (int by = 0; by < 100; by += 33) {
            all.add(r.lies(by));
        }
        all.addAll(List.of(r.cracks(), r.shut(), r.way(), r.thick(), r.most(0), r.most(1), r.foretell(), r.off()));
        return all;
    }
}
