import java.io.IOException;
import java.nio.file.Files;
import java.nio.file.Path;
import java.util.List;
import java.util.TreeSet;
import java.util.regex.Matcher;
import java.util.regex.Pattern;

/** What ../shared/LANGUAGE.md rules out does not stand in the program. It is run from the project's folder. */
final class LanguageTest {
    private static final String[] FORBIDDEN = {
        "throw", "throws", "try", "catch", "finally", "synchronized", "assert", "import", "package", "native",
        "volatile", "transient", "default\\s*->", "protected", "Object", "Throwable", "Exception", "Error", "System\\.(?!arraycopy)",
        "Thread", "Random", "Date", "equals", "hashCode", "toString", "instanceof", "Exact", "yield"
    };
    private static final List<String> LIBRARY = List.of("Integer.bitCount", "Math.max", "System.arraycopy");

    public static void main(String[] args) throws IOException {
        String source = Files.readString(Path.of("src/main/java/CoatPockets.java"));
        String code = source.replaceAll("(?s)/\\*.*?\\*/", "").replaceAll("//[^\n]*", "");
        words(code);
        library(code);
        madeInConstructorsAlone(code);
        lengths(source);
        Due.end();
    }

    private static void words(String code) {
        for (String word : FORBIDDEN) {
            Due.due("no " + word, !Pattern.compile("\\b" + word).matcher(code).find());
        }
        Due.due("no lambda", !code.contains("->"));
        Due.due("no method reference", !code.contains("::"));
        Due.due("no text", !code.contains("\""));
    }

    private static void library(String code) {
        TreeSet<String> used = new TreeSet<>();
        Matcher call = Pattern.compile("\\b[A-Z][a-z]\\w*\\.\\w+").matcher(code);
        while (call.find()) {
            used.add(call.group());
        }
        Due.due("of the library " + used, LIBRARY.containsAll(used));
    }

    /** All calls of a run share one room, so that calls make nothing. */
    private static void madeInConstructorsAlone(String code) {
        for (String line : code.split("\n")) {
            if (line.contains("new ")) {
                Due.due("made with its object: " + line, line.matches("\\s+(private )?final [\\w\\[\\]]+ \\w+ = new .*;"));
            }
        }
    }

    private static void lengths(String source) {
        String[] lines = source.split("\n");
        for (int i = 0; i < lines.length; i++) {
            Due.due("line " + (i + 1) + " is plain", lines[i].matches("[ -~]{0,120}") && !lines[i].endsWith(" "));
            if (lines[i].matches(" {4,8}[^ ].*\\(.*\\) \\{") && !lines[i].matches(" *(if|for|while|switch) .*")) {
                String end = lines[i].replaceAll("[^ ].*", "") + "}";
                int last = i;
                while (last < lines.length && !lines[last].equals(end)) {
                    last++;
                }
                Due.due("the method of line " + (i + 1) + " is short", last - i < 60);
                int parameters = lines[i].split(",").length;
                Due.due("the method of line " + (i + 1) + " takes seven at most", parameters <= 7);
            }
        }
    }
}
