import java.io.IOException;
import java.nio.file.Files;
import java.nio.file.Path;
import java.util.List;
import java.util.regex.Matcher;
import java.util.regex.Pattern;

/** What of LANGUAGE.md can be seen in the text of the class; the first argument is its path. */
public final class LanguageTest {
    private static final Check CHECK = new Check("language");
    private static final String[] RULED_OUT = {"->", "::", "\\btry\\b", "\\bcatch\\b", "\\bfinally\\b", "\\bthrow\\b",
        "\\bsynchronized\\b", "\\bassert\\b", "Exact\\b", "\\bdouble\\b", "\\bfloat\\b", "\\brecord\\b", "static \\{",
        "\\bequals\\b", "\\bhashCode\\b", "\\btoString\\b", "System\\.(?!arraycopy)", "Math\\.(?!abs|min|max)",
        "Arrays\\.(?!fill)", "\\bRandom\\b", "\\bThread\\b", "^package", "\\bprotected\\b", "[^\\x00-\\x7f]"};
    private static final String[] FACE = {"letters", "blank", "fault", "land", "march", "plan", "tell", "as", "landTold",
        "place", "flour", "marchTold", "at", "stand", "bakes", "hungry", "carried", "lack", "mean", "worst", "run",
        "ahead", "far", "burnt", "more", "which", "image", "restore", "count", "digest"};

    public static void main(String[] args) throws IOException {
        List<String> lines = Files.readAllLines(Path.of(args[0]));
        StringBuilder code = new StringBuilder();
        for (String line : lines) {
            String bare = line.replaceAll("//.*", "").replaceAll("/\\*\\*.*\\*/", "");
            code.append(bare).append('\n');
            if (bare.startsWith("import")) CHECK.yes(bare, bare.equals("import java.util.Arrays;"));
        }
        for (String ruledOut : RULED_OUT) {
            Matcher matcher = Pattern.compile(ruledOut, Pattern.MULTILINE).matcher(code);
            CHECK.yes("none of " + ruledOut, !matcher.find());
        }
        methodsAreShort(lines);
        int classes = 0;
        Matcher matcher = Pattern.compile("\\bclass \\w+").matcher(code);
        while (matcher.find()) classes++;
        CHECK.yes("some twelve classes", classes <= 13);
        for (String name : FACE) {
            Matcher again = Pattern.compile("\\b(private|static|int|boolean|void|long) " + name + "\\(").matcher(code);
            int found = 0;
            while (again.find()) found++;
            CHECK.due("methods of the name " + name, found, 1);
        }
        CHECK.end();
    }

    private static void methodsAreShort(List<String> lines) {
        Pattern head = Pattern.compile("^( {8}| {4}(?! ))[\\w\\[\\] ]*\\w+\\(([^)]*)\\) \\{$");
        for (int i = 0; i < lines.size(); i++) {
            Matcher matcher = head.matcher(lines.get(i));
            if (!matcher.matches()) continue;
            int end = i;
            while (!lines.get(end).equals(matcher.group(1) + "}")) end++;
            CHECK.yes("short: " + lines.get(i), end - i <= 60);
            CHECK.yes("seven parameters: " + lines.get(i), matcher.group(2).split(",").length <= 7);
        }
    }
}
