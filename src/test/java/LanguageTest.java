import java.io.IOException;
import java.nio.charset.StandardCharsets;
import java.nio.file.Files;
import java.nio.file.Path;
import java.util.List;
import java.util.regex.Matcher;
import java.util.regex.Pattern;

/** Such rules of LANGUAGE.md as can be seen from the program's text; run in the project's folder. */
final class LanguageTest {
    private static final Check CHECK = new Check("LanguageTest");
    private static final List<String> LIBRARY = List.of("Integer", "Long", "Math", "String");

    public static void main(String[] arguments) throws IOException {
        String program = Files.readString(Path.of("src/main/java/ChipGame.java"), StandardCharsets.UTF_8);
        String code = program.replaceAll("(?s)/\\*.*?\\*/", "").replaceAll("//[^\n]*", "");
        String bare = code.replaceAll("\"[^\"]*\"", "\"\"");
        bannedWords(bare);
        library(bare);
        staticFields(bare);
        methodLengths(code);
        CHECK.that("plain signs", program.chars().allMatch(sign -> sign == '\n' || sign >= 32 && sign < 127));
        CHECK.end();
    }

    private static void bannedWords(String bare) {
        String[] words = {"package", "import", "throw", "throws", "try", "catch", "synchronized", "assert",
            "protected", "native", "volatile", "transient", "instanceof", "equals", "hashCode", "toString",
            "System", "Object", "Thread", "var", "yield"};
        for (String word : words) {
            CHECK.that("without " + word, !Pattern.compile("\\b" + word + "\\b").matcher(bare).find());
        }
        CHECK.that("without lambdas", !bare.contains("->"));
        CHECK.that("without method references", !bare.contains("::"));
        CHECK.that("without joining texts by +", !bare.contains("\"\" +") && !bare.contains("+ \"\""));
        CHECK.that("one public class", count(bare, "\\bpublic\\s+final\\s+class\\b") == 1);
        CHECK.due("public classes", count(bare, "\\bpublic\\b[^=;({]*\\b(class|enum|interface|record)\\b"), 1);
    }

    private static int count(String text, String pattern) {
        int found = 0;
        for (Matcher m = Pattern.compile(pattern).matcher(text); m.find();) {
            found++;
        }
        return found;
    }

    private static void library(String bare) {
        Matcher names = Pattern.compile("(?<![\\w.])([A-Z][a-z]\\w*)").matcher(bare);
        while (names.find()) {
            String name = names.group(1);
            boolean own = Pattern.compile("\\bclass " + name + "\\b").matcher(bare).find();
            CHECK.that("name " + name, own || LIBRARY.contains(name));
        }
        Matcher calls = Pattern.compile("\\b(Integer|Long|Math|String)\\.(\\w+)").matcher(bare);
        List<String> allowed = List.of("Integer.bitCount", "Long.MIN_VALUE", "Math.floorMod", "Math.abs");
        while (calls.find()) {
            CHECK.that("call " + calls.group(), allowed.contains(calls.group()));
        }
    }

    private static void staticFields(String bare) {
        Matcher fields = Pattern.compile("\\bstatic\\s+([^(){}=;]*)[=;]").matcher(bare);
        while (fields.find()) {
            CHECK.that("static field " + fields.group(1), fields.group(1).startsWith("final "));
        }
    }

    /** Methods start at four or eight blanks, and end with a brace at the same place. */
    private static void methodLengths(String code) {
        String[] lines = code.split("\n");
        for (int i = 0; i < lines.length; i++) {
            Matcher head = Pattern.compile("^( {4}| {8})(?! )[\\w\\[\\] ]+\\(([^()]*)\\) \\{$").matcher(lines[i]);
            if (head.matches() && !lines[i].trim().matches("(if|for|while|switch).*")) {
                int end = i + 1;
                while (end < lines.length && !lines[end].equals(head.group(1) + "}")) {
                    end++;
                }
                CHECK.that("short: " + lines[i].trim(), end - i < 60);
                CHECK.that("few parameters: " + lines[i].trim(), head.group(2).split(",").length <= 7);
            }
        }
    }
}
