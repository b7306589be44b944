import java.io.IOException;
import java.nio.charset.StandardCharsets;
import java.nio.file.Files;
import java.nio.file.Path;
import java.util.List;
import java.util.regex.Matcher;
import java.util.regex.Pattern;

/** Such rules of LANGUAGE.md as can be seen from the program's text; run in the project's folder. */
final class LanguageTest {
    private static final Check CHECK = new Check("LanguageTest");
    private static final List<String> LIBRARY = List.of("Integer", "Long", "Math", "String", "StringBuilder",
        "ArrayList", "List", "Arrays", "Iterator", "Iterable", "Comparable", "System", "Override");

    public static void main(String[] arguments) throws IOException {
        String program = Files.readString(Path.of("src/main/java/ChipGame.java"), StandardCharsets.UTF_8);
        String code = program.replaceAll("(?s)/\\*.*?\\*/", "").replaceAll("//[^\n]*", "");
        String bare = code.replaceAll("\"[^\"]*\"", "\"\"");
        bannedWords(bare);
        bannedForms(bare);
        library(bare);
        staticFields(bare);
        methodLengths(code);
        CHECK.that("plain signs", code.chars().allMatch(sign -> sign == '\n' || sign >= 32 && sign < 127));
        CHECK.end();
    }

    private static void bannedWords(String bare) {
        String[] words = {"package", "throw", "throws", "try", "catch", "synchronized", "assert", "protected",
            "native", "volatile", "hashCode", "Object", "Thread"};
        for (String word : words) {
            CHECK.due("uses of " + word, count(bare, "\\b" + word + "\\b"), 0);
        }
    }

    private static void bannedForms(String bare) {
        int arrows = count(bare, "->") - count(bare, "\\b(case[^:;{}]*|default)\\s*->");
        CHECK.due("lambdas", arrows, 0);
        CHECK.due("method references", count(bare, "::"), 0);
        CHECK.due("texts joined by +", count(bare, "\"\" \\+|\\+ \"\""), 0);
        CHECK.due("toString() of its own", count(bare, "\\bString\\s+toString\\b"), 0);
        CHECK.due("equals() of its own", count(bare, "\\bboolean\\s+equals\\b"), 0);
        CHECK.due("static initialisers", count(bare, "\\bstatic\\s*\\{"), 0);
        CHECK.due("public classes", count(bare, "\\bpublic\\b[^=;({]*\\b(class|enum|interface|record)\\b"), 1);
        CHECK.due("final ones of them", count(bare, "\\bpublic\\s+final\\s+class\\s+ChipGame\\b"), 1);
    }

    private static int count(String text, String pattern) {
        int found = 0;
        for (Matcher m = Pattern.compile(pattern).matcher(text); m.find();) {
            found++;
        }
        return found;
    }

    private static void library(String bare) {
        Matcher names = Pattern.compile("(?<![\\w.])([A-Z][a-z]\\w*)").matcher(bare);
        while (names.find()) {
            String name = names.group(1);
            boolean own = count(bare, "\\b(class|enum|interface|record) " + name + "\\b") > 0;
            CHECK.that("name " + name, own || LIBRARY.contains(name));
        }
        CHECK.due("other imports", count(bare, "\\bimport\\b(?! java\\.util\\.(ArrayList|List|Arrays|Iterator);)"), 0);
        CHECK.due("other calls of System", count(bare, "\\bSystem\\b(?!\\.arraycopy\\()"), 0);
        String otherArrays = "(?<!util\\.)\\bArrays\\b(?!\\.(copyOf|copyOfRange|fill)\\()";
        CHECK.due("other calls of Arrays", count(bare, otherArrays), 0);
        CHECK.due("calls that may throw", count(bare, "\\b(Math|Integer|Long)\\.\\w*(Exact|parse|decode)\\w*"), 0);
        CHECK.due("other calls of Math", count(bare, "\\bMath\\.(random|sqrt|pow|log|exp|sin|cos|ceil|rint)\\b"), 0);
    }

    private static void staticFields(String bare) {
        Matcher fields = Pattern.compile("\\bstatic\\s+([^(){}=;]*)[=;]").matcher(bare);
        while (fields.find()) {
            CHECK.that("static field " + fields.group(1), fields.group(1).startsWith("final "));
        }
    }

    /** Methods start at four or eight blanks, and end with a brace at the same place. */
    private static void methodLengths(String code) {
        String[] lines = code.split("\n");
        for (int i = 0; i < lines.length; i++) {
            Matcher head = Pattern.compile("^( {4}| {8})(?! )[\\w\\[\\] ]+\\(([^()]*)\\) \\{$").matcher(lines[i]);
            if (head.matches() && !lines[i].trim().matches("(if|for|while|switch).*")) {
                int end = i + 1;
                while (end < lines.length && !lines[end].equals(head.group(1) + "}")) {
                    end++;
                }
                CHECK.that("some sixty lines: " + lines[i].trim(), end - i < 65);
                CHECK.that("few parameters: " + lines[i].trim(), head.group(2).split(",").length <= 7);
            }
        }
    }
}
