import java.nio.file.Files;
import java.nio.file.Path;
import java.util.HashSet;
import java.util.List;
import java.util.Set;
import java.util.regex.Matcher;
import java.util.regex.Pattern;

/** What of ../shared/LANGUAGE.md a look at the text can tell: a guard, not a proof. */
public final class Language {
    private static final String[] RULED_OUT = {
        "\\b(throw|throws|try|catch|finally|synchronized|assert|import|package|volatile|transient|native)\\b",
        "\\b(equals|hashCode|toString|instanceof|record|enum|interface)\\b", "->", "::", "\\bstatic\\s*\\{",
        "\\bwhile\\b", "\\bObject\\b", "\\b(double|float)\\b", "Exact\\b", "\\bSystem\\b", "@"
    };
    private static final Pattern METHOD = Pattern.compile(
        "^( +)(?:public |private |static )*[\\w<>\\[\\]]+ (\\w+)\\(([^)]*)\\) \\{$");

    public static void main(String[] args) throws Exception {
        Check check = new Check();
        List<String> lines = Files.readAllLines(Path.of("src/main/java/VillageRounds.java"));
        StringBuilder bare = new StringBuilder();
        for (String line : lines) {
            String code = line.replaceAll("\"[^\"]*\"", "\"\"").replaceAll("//.*", "");
            boolean comment = code.trim().startsWith("*") || code.trim().startsWith("/**");
            bare.append(comment ? "" : code).append('\n');
        }
        for (String pattern : RULED_OUT) {
            Matcher matcher = Pattern.compile(pattern).matcher(bare);
            check.due("found " + pattern, matcher.find() ? 1 : 0, 0);
        }
        methods(check, lines);
        Matcher classes = Pattern.compile("\\bclass \\w+").matcher(bare);
        int found = 0;
        while (classes.find()) {
            found++;
        }
        check.due("more than twelve classes", Math.max(found, 12), 12);
        for (int i = 0; i < lines.size(); i++) {
            check.due("line " + (i + 1) + " of signs 32 to 126", lines.get(i).matches("[ -~]*") ? 1 : 0, 1);
        }
        check.end("Language");
    }

    private static void methods(Check check, List<String> lines) {
        Set<String> faces = new HashSet<>();
        for (String line : lines) {
            Matcher matcher = METHOD.matcher(line);
            if (matcher.matches() && line.startsWith("    public ")) {
                faces.add(matcher.group(2));
            }
        }
        for (int i = 0; i < lines.size(); i++) {
            Matcher matcher = METHOD.matcher(lines.get(i));
            if (!matcher.matches()) {
                continue;
            }
            String name = matcher.group(2);
            boolean face = lines.get(i).startsWith("    public ");
            int end = i;
            while (!lines.get(end).equals(matcher.group(1) + "}")) {
                end++;
            }
            check.due(name + " is longer than sixty lines", end - i > 60 ? 1 : 0, 0);
            check.due(name + " takes more than seven", matcher.group(3).split(",").length > 7 ? 1 : 0, 0);
            check.due(name + " bears a public name", !face && faces.contains(name) ? 1 : 0, 0);
        }
    }
}
