import java.io.IOException;
import java.io.UncheckedIOException;
import java.nio.file.Files;
import java.nio.file.Path;
import java.util.List;
import java.util.regex.Matcher;
import java.util.regex.Pattern;

/** Those rules of LANGUAGE.md that can be seen in the source's words. */
final class LanguageTest {
    private static final String[] FORBIDDEN = {
        "throw", "throws", "try", "catch", "finally", "synchronized", "assert", "import", "package", "protected",
        "System\\.(?!arraycopy\\b)\\w+", "\\w+Exact", "->", "::", "equals", "hashCode", "toString", "Object", "Thread",
        "native", "volatile", "transient", "goto", "static\\s*\\{", "Random", "nanoTime", "@\\w+", "var", "yield",
        "interface", "extends", "instanceof",
    };

    private LanguageTest() { }

    static void all(String source) {
        Check.test("the language: no word that the rules rule out", () -> words(read(source)));
        Check.test("the language: short methods of few parameters", () -> methods(read(source)));
        Check.test("the language: few classes, static state that is final", () -> classes(read(source)));
    }

    private static String read(String source) {
        try {
            return Files.readString(Path.of(source));
        } catch (IOException e) {
            throw new UncheckedIOException(e);
        }
    }

    private static String withoutComments(String text) {
        return text.replaceAll("(?s)/\\*.*?\\*/", "").replaceAll("//[^\n]*", "");
    }

    private static void words(String text) {
        String code = withoutComments(text);
        for (String word : FORBIDDEN) {
            String bounded = Character.isLetter(word.charAt(0)) ? "\\b" + word + (word.endsWith("{") ? "" : "\\b") : word;
            Matcher m = Pattern.compile(bounded).matcher(code);
            Check.due("«" + word + "» stands in the source", m.find() ? 1 : 0, 0);
        }
        Check.due("signs beyond 127", code.chars().filter(c -> c > 127).count(), 0);
    }

    /** A method's head stands at 4 or 8 blanks, and its end at as many. */
    private static void methods(String text) {
        List<String> lines = text.lines().toList();
        Pattern head = Pattern.compile("^( {4}| {8})(?! |if|for|while|switch|do|else|return)[\\w\\[\\] ]+\\(([^()]*)\\) \\{$");
        int found = 0;
        for (int i = 0; i < lines.size(); i++) {
            Matcher m = head.matcher(lines.get(i));
            if (m.matches()) {
                found++;
                int end = i;
                while (!lines.get(end).equals(m.group(1) + "}")) {
                    end++;
                }
                Check.due("method of line " + (i + 1) + " is short", end - i < 60 ? 1 : 0, 1);
                int parameters = m.group(2).isEmpty() ? 0 : m.group(2).split(",").length;
                Check.due("method of line " + (i + 1) + " takes few", parameters <= 7 ? 1 : 0, 1);
            }
        }
        Check.due("methods were found", found > 80 ? 1 : 0, 1);
    }

    private static void classes(String text) {
        String code = withoutComments(text);
        Matcher inner = Pattern.compile("\\bclass \\w+").matcher(code);
        int count = 0;
        while (inner.find()) {
            count++;
        }
        Check.due("at most twelve classes", count <= 12 ? 1 : 0, 1);
        Matcher state = Pattern.compile("(?m)^ *(public |private )?static (?!final )[\\w\\[\\]]+ \\w+( =|;)").matcher(code);
        Check.due("static state that isn't final", state.find() ? 1 : 0, 0);
    }
}
