import java.io.IOException;
import java.nio.file.Files;
import java.nio.file.Path;
import java.util.List;
import java.util.regex.Matcher;
import java.util.regex.Pattern;

/** Those rules of LANGUAGE.md that can be seen from the words of the source alone. */
public final class SourceTest {
    private static final String[] NEVER = {"->", "::", "\\btry\\b", "\\bcatch\\b", "\\bfinally\\b", "\\bsynchronized\\b",
        "\\bassert\\b", "\\bprotected\\b", "\\bpackage\\b", "\\bnative\\b", "\\bvolatile\\b", "\\btransient\\b",
        "static \\{", "\\bSystem\\.(?!arraycopy)", "Exact\\(", "\\bRandom\\b", "\\bThread\\b", "\\bMath\\.(?!max|min)",
        "\\bArrays\\.(?!fill)", "\" \\+", "\\+ \"", "\\bwhile\\b", "\\bdo\\b", "for \\(;;", "\\bString\\.", "\\bObject\\b"};

    public static void main(String[] args) throws IOException {
        List<String> lines = Files.readAllLines(Path.of("src/main/java/TermDesk.java"));
        String code = String.join("\n", lines).replaceAll("(?s)/\\*.*?\\*/", "").replaceAll("//[^\n]*", "");
        for (String never : NEVER) {
            Checks.due("the source has " + never, Pattern.compile(never).matcher(code).find(), false);
        }
        Matcher imports = Pattern.compile("import ([^;]*);").matcher(code);
        while (imports.find()) {
            boolean fine = List.of("java.util.Arrays", "java.util.NoSuchElementException").contains(imports.group(1));
            Checks.due("import " + imports.group(1), fine, true);
        }
        Matcher classes = Pattern.compile("\\bclass \\w+").matcher(code);
        Checks.due("at most twelve classes", classes.results().count() <= 12, true);
        Matcher statics = Pattern.compile("\n    +(?:private |public )?static (?!final)[^(=]*[;=]").matcher(code);
        Checks.due("a static field that isn't final", statics.find(), false);
        methods(lines);
        Checks.end("SourceTest");
    }

    private static void methods(List<String> lines) {
        Pattern head = Pattern.compile("( +)(?:private |public |static |final )*[\\w\\[\\]]+ (\\w+)\\(([^)]*)\\).*\\{");
        for (int i = 0; i < lines.size(); i++) {
            Matcher matcher = head.matcher(lines.get(i));
            if (matcher.matches() && !lines.get(i).contains("else if")) {
                int end = i;
                while (!lines.get(end).equals(matcher.group(1) + "}")) {
                    end++;
                }
                Checks.due(matcher.group(2) + " has at most 60 lines", end - i < 60, true);
                Checks.due(matcher.group(2) + " takes at most 7", matcher.group(3).split(",").length <= 7, true);
            }
        }
        for (String line : lines) {
            Checks.due("a line of over 120 signs: " + line, line.length() <= 120, true);
        }
    }
}
