import java.io.IOException;
import java.lang.reflect.Field;
import java.lang.reflect.Member;
import java.lang.reflect.Method;
import java.lang.reflect.Modifier;
import java.nio.file.Files;
import java.nio.file.Path;
import java.util.ArrayList;
import java.util.List;
import java.util.TreeSet;
import java.util.regex.Matcher;
import java.util.regex.Pattern;

/** The class's face is the document's, and its source keeps to what a machine can see of LANGUAGE.md. */
public final class LanguageTests {
    private static final String SOURCE = "src/main/java/FrostRing.java";
    private static final Path DOCUMENT = Path.of("../shared/DOC.md");

    private static final String[] FACE = {
        "int feed(int,int,int,int,int)", "int end(int)", "int text()", "int fault(int)", "int tick(int)",
        "int cell(int,int,int)", "int heat(int)", "boolean run(int,boolean)", "int pipe(int,int)", "int cold(int)",
        "int shut()", "int way()", "int gaps()", "int gap(int)", "int thick()", "int dig(int,int)", "int lacks(int)",
        "int pump()", "int lift(int)", "int cracks()", "int house(int,int)", "int foretell()", "int off()",
        "int more(int,int)", "int chosen()", "int gauge(int,int,int,int)", "int lies(int)", "int most(int)",
        "int frost(int)", "int count(int)", "int keep(int)", "int back(int)", "int row(int,int,int)",
        "int write(int,int,long)", "int paste(int,int,int,int,int)",
    };

    private LanguageTests() {
    }

    public static void main(String[] args) throws IOException {
        face();
        if (Files.isReadable(DOCUMENT)) {
            faceOfDocument(Files.readString(DOCUMENT));
        }
        String code = withoutCommentsAndTexts(Files.readString(Path.of(SOURCE)));
        words(code);
        classes(code);
        methods(code);
        Check.close("LanguageTests");
    }

    private static String signature(Method m) {
        StringBuilder all = new StringBuilder(m.getReturnType().getName()).append(' ').append(m.getName()).append('(');
        for (int i = 0; i < m.getParameterCount(); i++) {
            all.append(i == 0 ? "" : ",").append(m.getParameterTypes()[i].getName());
        }
        return all.append(')').toString();
    }

    private static boolean isOwn(Member m) {
        return !m.isSynthetic() && !Modifier.isPrivate(m.getModifiers());
    }

    private static void face() {
        TreeSet<String> names = new TreeSet<>();
        TreeSet<String> seen = new TreeSet<>();
        for (Method m : FrostRing.class.getDeclaredMethods()) {
            if (isOwn(m)) {
                Check.due("rule 1: " + m + " is public", Modifier.isPublic(m.getModifiers()), true);
                seen.add(signature(m));
                names.add(m.getName());
            }
        }
        Check.due("rule 1: the face " + seen, seen.equals(new TreeSet<>(List.of(FACE))), true);
        for (Field f : FrostRing.class.getDeclaredFields()) {
            Check.due("rule 1: the field " + f.getName(), isOwn(f), f.getName().equals("NONE"));
        }
        Check.due("rule 1: final", Modifier.isFinal(FrostRing.class.getModifiers()), true);
        Check.due("rule 1: constructors", FrostRing.class.getDeclaredConstructors().length, 1);
        List<Class<?>> all = new ArrayList<>(List.of(FrostRing.class.getDeclaredClasses()));
        for (Class<?> c : all) {
            Check.due("rule 2: static " + c, Modifier.isStatic(c.getModifiers()), true);
            for (Method m : c.getDeclaredMethods()) {
                Check.due("rule 1: the name of " + m, names.contains(m.getName()), false);
            }
        }
        for (Method m : FrostRing.class.getDeclaredMethods()) {
            Check.due("rule 1: the name of " + m, isOwn(m) || !names.contains(m.getName()), true);
        }
        all.add(FrostRing.class);
        Check.due("rule 11: some twelve classes", all.size() <= 12, true);
        for (Class<?> c : all) {
            fields(c);
        }
    }

    /** The face that is looked for here is the one that the document tells. */
    private static void faceOfDocument(String document) {
        TreeSet<String> told = new TreeSet<>();
        Matcher m = Pattern.compile("(?m)^    public (\\w+ \\w+)\\((.*)\\);$").matcher(document);
        while (m.find()) {
            told.add(m.group(1) + "(" + m.group(2).replaceAll(" \\w+(, )?", ",").replaceFirst(",$", "") + ")");
        }
        Check.due("the document's face " + told, told.equals(new TreeSet<>(List.of(FACE))), true);
        Check.due("NONE", FrostRing.NONE, -1);
    }

    private static void fields(Class<?> c) {
        int held = 0;
        for (Field f : c.getDeclaredFields()) {
            if (!Modifier.isStatic(f.getModifiers())) {
                held++;
                continue;
            }
            Check.due("rule 5: final " + f, Modifier.isFinal(f.getModifiers()), true);
            Check.due("rule 5: a constant " + f, f.getType().isPrimitive(), true);
        }
        Check.due("rule 11: fields of " + c, held <= 20, true);
    }

    private static String withoutCommentsAndTexts(String source) {
        Matcher m = Pattern.compile("/\\*.*?\\*/|//[^\n]*|\"(\\\\.|[^\"\\\\])*\"|'(\\\\.|[^'\\\\])'", Pattern.DOTALL).matcher(source);
        StringBuilder code = new StringBuilder();
        while (m.find()) {
            m.appendReplacement(code, m.group().startsWith("/") ? m.group().replaceAll("[^\n]", "") : "0");
        }
        return m.appendTail(code).toString();
    }

    private static void none(String rule, String pattern, String code) {
        Matcher m = Pattern.compile(pattern).matcher(code);
        Check.due(rule + ": " + pattern + " is there", m.find(), false);
    }

    private static void words(String code) {
        none("rule 6", "\\b(throw|throws|try|catch|finally|synchronized|assert)\\b", code);
        none("rule 2", "->|::", code);
        none("rule 5", "static\\s*\\{", code);
        none("rule 3", "\\b(Object|HashMap|Map|Set|Optional|Stream|Random|Thread)\\b", code);
        none("rule 4", "Exact\\b|String\\.format|\\bSystem\\.(?!arraycopy)", code);
        none("rule 4", "\\bArrays\\.(?!fill|copyOf|copyOfRange)", code);
        none("rule 4", "\\bMath\\.(?!max|min|abs)", code);
        none("rule 6", "\\b(equals|hashCode|toString)\\b", code);
        none("rule 9", "while\\s*\\(\\s*true|for\\s*\\(\\s*;\\s*;", code);
        // a queue grows while it is gone through: its bound must stand beside it
        none("rule 9", "i < queued\\s*;", code);
        none("rule 1", "^package", code);
        Matcher m = Pattern.compile("import ([^;]*);").matcher(code);
        while (m.find()) {
            Check.due("rule 4: import " + m.group(1), m.group(1).equals("java.util.Arrays"), true);
        }
    }

    private static void classes(String code) {
        Matcher m = Pattern.compile("(?m)^( *).*\\b(class|interface|enum|record)\\s+\\w+.*\\{$").matcher(code);
        int n = 0;
        while (m.find()) {
            n++;
            Check.due("rule 2: a class of the class: " + m.group().trim(), m.group(1).length() <= 4, true);
        }
        Check.due("rule 11: classes in the source", n, FrostRing.class.getDeclaredClasses().length + 1);
    }

    private static void methods(String code) {
        String[] lines = code.split("\n", -1);
        Pattern head = Pattern.compile("^( +)(?!return|new|else)[\\w\\[\\]<> ]+\\(([^)]*)\\) \\{$");
        for (int i = 0; i < lines.length; i++) {
            Matcher m = head.matcher(lines[i]);
            if (!m.matches() || lines[i].trim().matches("^(if|for|while|switch|\\}).*")) {
                continue;
            }
            int end = i;
            while (!lines[end].equals(m.group(1) + "}")) {
                end++;
            }
            Check.due("rule 11: not too long: " + lines[i].trim(), end - i <= 60, true);
            Check.due("rule 11: parameters: " + lines[i].trim(), m.group(2).split(",").length <= 7, true);
        }
    }
}
