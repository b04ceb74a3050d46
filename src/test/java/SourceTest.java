import java.io.IOException;
import java.nio.file.Files;
import java.nio.file.Path;
import java.util.HashMap;
import java.util.HashSet;
import java.util.List;
import java.util.Map;
import java.util.Set;
import java.util.regex.Matcher;
import java.util.regex.Pattern;

/** Those rules of LANGUAGE.md that can be seen from the words of the source alone. */
public final class SourceTest {
    private static final String[] NEVER = {"->", "::", "\\btry\\b", "\\bcatch\\b", "\\bfinally\\b", "\\bsynchronized\\b",
        "\\bassert\\b", "\\bprotected\\b", "\\bpackage\\b", "\\bnative\\b", "\\bvolatile\\b", "\\btransient\\b",
        "static \\{", "\\bSystem\\.(?!arraycopy)", "Exact\\(", "\\bRandom\\b", "\\bThread\\b", "\\bMath\\.(?!max|min)",
        "\\bArrays\\.(?!fill)", "\" \\+", "\\+ \"", "\\bwhile\\b", "\\bdo\\b", "for \\(;;", "\\bString\\.", "\\bObject\\b"};

    private static final Pattern HEAD = Pattern.compile(
        "( +)(?:private |public |static |final )*[\\w\\[\\]]+ (\\w+)\\(([^)]*)\\).*\\{");
    private static final Pattern CALL = Pattern.compile("\\b(\\w+)\\(");

    public static void main(String[] args) throws IOException {
        List<String> lines = Files.readAllLines(Path.of("src/main/java/TermDesk.java"));
        String code = String.join("\n", lines).replaceAll("(?s)/\\*.*?\\*/", "").replaceAll("//[^\n]*", "");
        for (String never : NEVER) {
            Checks.due("the source has " + never, Pattern.compile(never).matcher(code).find(), false);
        }
        Matcher imports = Pattern.compile("import ([^;]*);").matcher(code);
        while (imports.find()) {
            boolean fine = List.of("java.util.Arrays", "java.util.NoSuchElementException").contains(imports.group(1));
            Checks.due("import " + imports.group(1), fine, true);
        }
        Matcher classes = Pattern.compile("\\bclass \\w+").matcher(code);
        Checks.due("at most twelve classes", classes.results().count() <= 12, true);
        Matcher statics = Pattern.compile("\n    +(?:private |public )?static (?!final)[^(=]*[;=]").matcher(code);
        Checks.due("a static field that isn't final", statics.find(), false);
        methods(lines);
        depths(lines);
        Checks.end("SourceTest");
    }

    private static void methods(List<String> lines) {
        for (int i = 0; i < lines.size(); i++) {
            Matcher matcher = HEAD.matcher(lines.get(i));
            if (matcher.matches() && !lines.get(i).contains("else if")) {
                int end = i;
                while (!lines.get(end).equals(matcher.group(1) + "}")) {
                    end++;
                }
                Checks.due(matcher.group(2) + " has at most 60 lines", end - i < 60, true);
                Checks.due(matcher.group(2) + " takes at most 7", matcher.group(3).split(",").length <= 7, true);
            }
        }
        for (String line : lines) {
            Checks.due("a line of over 120 signs: " + line, line.length() <= 120, true);
        }
    }

    /** Methods of one name in several classes are taken for one, so a depth is rather too great. */
    private static void depths(List<String> lines) {
        Map<String, Set<String>> called = new HashMap<>();
        String open = "";
        for (String line : lines) {
            Matcher head = HEAD.matcher(line);
            boolean begins = head.matches() && !line.contains("else if");
            open = begins ? head.group(2) : open;
            Set<String> calls = called.computeIfAbsent(open, name -> new HashSet<>());
            Matcher call = CALL.matcher(begins || line.strip().startsWith("*") ? "" : line);
            while (call.find()) {
                calls.add(call.group(1));
            }
        }
        for (String name : called.keySet()) {
            int deep = depth(name, called, 0);
            Checks.due("calls from " + name + " on go " + deep + " deep, at most 8", deep <= 8, true);
        }
    }

    private static int depth(String name, Map<String, Set<String>> called, int above) {
        int below = 0;
        if (called.containsKey(name) && above < 20) {
            for (String next : called.get(name)) {
                below = Math.max(below, depth(next, called, above + 1));
            }
        }
        return called.containsKey(name) ? below + 1 : 0;
    }
}
