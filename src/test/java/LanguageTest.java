import java.nio.file.Files;
import java.nio.file.Path;
import java.util.List;
import java.util.regex.Matcher;
import java.util.regex.Pattern;

/** Rules of LANGUAGE.md that the text of SandGroup.java shows. */
public final class LanguageTest {
    private static final Check CHECK = new Check("LanguageTest");
    private static final String[] WORDS = {"throw", "throws", "try", "catch", "finally", "synchronized", "assert", "protected",
        "volatile", "transient", "native", "var", "yield", "sealed", "non-sealed", "Object", "System.out", "hashCode", "equals",
        "toString", "random", "Random", "Thread", "nanoTime", "currentTimeMillis", "package"};
    private static final int MOST_LINES = 60;

    public static void main(String[] args) throws Exception {
        String source = Files.readString(Path.of("src/main/java/SandGroup.java"));
        CHECK.holds("it has signs 1 to 127 alone", source.chars().allMatch(c -> c > 0 && c < 128));
        String code = source.replaceAll("(?s)/\\*.*?\\*/", "").replaceAll("//[^\n]*", "");
        for (String word : WORDS) {
            CHECK.holds("it doesn't say " + word, !Pattern.compile("\\b" + Pattern.quote(word) + "\\b").matcher(code).find());
        }
        CHECK.holds("no lambda or arrow", !code.contains("->"));
        CHECK.holds("no method reference", !code.contains("::"));
        CHECK.holds("no annotation", !code.contains("@"));
        CHECK.holds("no text", !code.contains("\""));
        CHECK.holds("none of the Exact functions", !Pattern.compile("\\w+Exact\\b").matcher(code).find());
        CHECK.holds("no static block", !Pattern.compile("static\\s*\\{").matcher(code).find());
        CHECK.holds("no endless loop", !Pattern.compile("(while\\s*\\(true|for\\s*\\(\\s*;)").matcher(code).find());
        List<String> library = List.of("Arrays.fill", "System.arraycopy", "Math.max", "Long.MIN_VALUE");
        Matcher uses = Pattern.compile("\\b(Arrays|System|Math|Integer|Long)\\.\\w+").matcher(code);
        while (uses.find()) {
            CHECK.holds(uses.group() + " is of the library", library.contains(uses.group()));
        }
        Matcher imports = Pattern.compile("import [^;]*;").matcher(code);
        while (imports.find()) {
            CHECK.holds(imports.group() + " is of the library", imports.group().equals("import java.util.Arrays;"));
        }
        methodLengths(source);
        CHECK.end();
    }

    /** A method begins with a line that is indented by one or two levels and opens a brace behind its parameters. */
    private static void methodLengths(String source) {
        String[] lines = source.split("\n");
        for (int i = 0; i < lines.length; i++) {
            Matcher head = Pattern.compile("^( {4}| {8})\\S.*\\) \\{$").matcher(lines[i]);
            if (head.matches() && !lines[i].trim().matches("(if|for|while|switch|\\}).*")) {
                int end = i;
                while (end < lines.length && !lines[end].equals(head.group(1) + "}")) {
                    end++;
                }
                CHECK.holds(lines[i].trim() + " is short", end - i < MOST_LINES);
            }
        }
    }
}
