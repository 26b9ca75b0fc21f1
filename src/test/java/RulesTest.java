import java.nio.file.Files;
import java.nio.file.Path;
import java.util.ArrayList;
import java.util.List;
import java.util.regex.Matcher;
import java.util.regex.Pattern;

/** What of LANGUAGE.md can be read off the lines of the program. */
public final class RulesTest {
    private static final String[] NEVER = {"->", "::", "\\bcatch\\b", "\\btry\\b", "\\bfinally\\b", "\\bassert\\b", "\\bsynchronized\\b",
        "\\binstanceof\\b", "\\bstatic\\s*\\{", "\\bgoto\\b", "\\bequals\\b", "\\bhashCode\\b", "\\btoString\\b", "\\brecord\\b", "\\bdouble\\b",
        "\\bfloat\\b", "\\bString\\b", "\\bInteger\\.(?!bitCount\\b)", "\\w+Exact\\b", "\\bRandom\\b", "\\bSystem\\.(?!arraycopy\\b)",
        "\\bMath\\.(?!abs\\b|max\\b|min\\b|floorDiv\\b)", "\\bArrays\\.(?!fill\\b)", "\\bThread\\b", "\\bObject\\b", "\\blong\\s*\\[", "\\bpackage\\b",
        "\\bprotected\\b", "\"", "\\b[A-Z][A-Z_]+\\[[^\\]]*\\]\\s*(?:[-+*/%|&^]|<<|>>>?)?=(?!=)",
        "\\b[A-Z][A-Z_]+\\[[^\\]]*\\](?:\\+\\+|--)", "\\?\\?", "\\bwhile\\s*\\(true", "for\\s*\\(\\s*;\\s*;"};

    public static void main(String[] args) throws Exception {
        Checks checks = new Checks("RulesTest");
        String source = Files.readString(Path.of("src/main/java/OldRoads.java"));
        checks.yes("signs 9 .. 126", source.chars().allMatch(c -> c == '\n' || c >= 32 && c < 127));
        String bare = source.replaceAll("(?s)/\\*.*?\\*/", "").replaceAll("//[^\n]*", "");
        for (String never : NEVER) {
            Matcher m = Pattern.compile(never).matcher(bare);
            checks.yes("never " + never, !m.find());
        }
        Matcher imports = Pattern.compile("import ([^;]+);").matcher(bare);
        while (imports.find()) {
            checks.yes("import " + imports.group(1), imports.group(1).matches("java\\.util\\.(Arrays|NoSuchElementException)"));
        }
        Matcher thrown = Pattern.compile("throw [^;]+;").matcher(bare);
        while (thrown.find()) {
            checks.yes(thrown.group(), thrown.group().equals("throw new NoSuchElementException();"));
        }
        Matcher classes = Pattern.compile("\\b(class|enum|interface) \\w+").matcher(bare);
        int many = 0;
        while (classes.find()) {
            many++;
        }
        checks.yes("some twelve classes: " + many, many <= 12);
        methods(checks, bare);
        checks.end();
    }

    private static void methods(Checks checks, String bare) {
        Pattern head = Pattern.compile("^ {4,8}(?:(?:public|private|static|final) )*(?:\\w+(?:\\[\\])* )?(\\w+)\\(([^)]*)\\)[^;{]*\\{$");
        String[] lines = bare.split("\n");
        List<String> found = new ArrayList<>();
        for (int i = 0; i < lines.length; i++) {
            Matcher m = head.matcher(lines[i]);
            if (!m.find()) {
                continue;
            }
            found.add(m.group(1));
            int indent = lines[i].length() - lines[i].stripLeading().length();
            int end = i + 1;
            while (!lines[end].startsWith(" ".repeat(indent) + "}")) {
                end++;
            }
            checks.yes(m.group(1) + " has " + (end - i + 1) + " lines", end - i + 1 <= 60);
            int parameters = m.group(2).isEmpty() ? 0 : m.group(2).split(",").length;
            checks.yes(m.group(1) + " has " + parameters + " parameters", parameters <= 7);
        }
        checks.yes("methods are found: " + found.size(), found.size() > 150);
    }
}
