import java.io.IOException;
import java.nio.file.Files;
import java.nio.file.Path;
import java.util.List;
import java.util.regex.Matcher;
import java.util.regex.Pattern;

/** What of LANGUAGE.md can be seen in the text of the class: words that it may not have, and its sizes. */
public final class LanguageTest {
    private static final Path SOURCE = Path.of("src/main/java/MeetingKit.java");
    private static final List<String> FORBIDDEN = List.of(
            "throw", "throws", "try", "catch", "finally", "synchronized", "assert", "import", "package", "protected",
            "volatile", "native", "Object", "System", "Exception", "Random", "Thread", "toString", "hashCode");
    private static final List<String> FACE = List.of(
            "device", "thread", "step", "interrupt", "close", "run", "tell", "outcome", "state", "waiting", "passed", "stuck");
    private static final Pattern TYPE = Pattern.compile("\\b(class|enum|interface|record) [A-Z]\\w*");
    /** A method or a constructor, with its parameters. */
    private static final Pattern METHOD = Pattern.compile(
            "(?m)^( {4,8})(?:(?:public|private|static|final|abstract) )*(?:[\\w\\[\\]]+ )?(\\w+)\\(([^)]*)\\) \\{$");

    public static void main(String[] args) throws IOException {
        String text = Files.readString(SOURCE).replaceAll("(?s)/\\*.*?\\*/", "").replaceAll("//.*", "");
        for (String word : FORBIDDEN) {
            Check.due("rules 4, 6 and 13: the word " + word, count(text, "\\b" + word + "\\b"), 0);
        }
        Check.due("rule 2: lambdas and method references", count(text, "->|::"), 0);
        Check.due("rule 5: static fields that are not final", count(text, "\\bstatic (?!final|class)\\w+(\\[\\])? \\w+( =|;)"), 0);
        Check.due("rule 11: some twelve classes", count(text, TYPE.pattern()) <= 12, true);
        Check.due("rule 2: classes inside that are not static", count(text, "(?m)^ {4}(?!.*static).*\\bclass "), 0);
        for (String name : FACE) {
            Check.due("rule 1: methods named " + name, count(text, "(?m)^ +(?!return )[\\w ]+ " + name + "\\([^)]*\\) \\{$"), 1);
        }
        methods(text);
        Check.end("language");
    }

    private static int count(String text, String pattern) {
        int count = 0;
        Matcher found = Pattern.compile(pattern).matcher(text);
        while (found.find()) {
            count++;
        }
        return count;
    }

    /** Rule 11: "A method takes at most seven parameters. Methods stay short (some sixty lines)". */
    private static void methods(String text) {
        Matcher method = METHOD.matcher(text);
        int found = 0;
        while (method.find()) {
            found++;
            String name = method.group(2);
            int parameters = method.group(3).isEmpty() ? 0 : method.group(3).split(",").length;
            int end = text.indexOf("\n" + method.group(1) + "}", method.end());
            long lines = text.substring(method.start(), Math.max(end, method.start())).lines().count();
            Check.due("parameters of " + name, parameters <= 7, true);
            Check.due("lines of " + name, end > 0 && lines <= 60, true);
        }
        Check.due("methods were found", found > 50, true);
    }
}
