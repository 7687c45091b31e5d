import java.io.IOException;
import java.nio.file.Files;
import java.nio.file.Path;
import java.util.regex.Matcher;
import java.util.regex.Pattern;

/** What can be seen in the source of the rules of LANGUAGE.md; run from the project's root. */
public final class RulesTest {
    private static final String[] BANNED = {
        "throw", "try", "catch", "synchronized", "assert", "import", "package", "protected", "volatile",
        "transient", "native", "var", "goto", "yield", "sealed", "hashCode", "toString", "System\\.out",
        "Random", "Thread", "nanoTime", "currentTimeMillis", "MAX_VALUE", "MIN_VALUE", "\\w+Exact",
        "Object", "Class", "super", "double", "float"};

    public static void main(String[] args) throws IOException {
        Check check = new Check();
        String source = Files.readString(Path.of("src/main/java/HalfPlanks.java"));
        String code = bare(source);
        for (String word : BANNED) {
            check.isTrue("rule 3, 4, 6, 13: no " + word, !found("\\b" + word + "\\b", code));
        }
        check.isTrue("rule 2: no lambda, no method reference", !code.contains("->") && !code.contains("::"));
        check.isTrue("rule 5: no static initialiser", !found("static\\s*\\{", code));
        check.isTrue("rule 5: static fields are final", !found("static (?!final)[\\w\\[\\]]+ \\w+( =|;)", code));
        check.isTrue("rule 2: nested classes are static", !found("\\n\\s+(private )?(final )?class ", code));
        check.isTrue("rule 11: twelve classes at most", count("\\bclass \\w+", code) <= 12);
        check.isTrue("texts are plain", source.chars().allMatch(letter -> letter < 128));
        methods(check, code);
        made(check, code);
        check.end();
    }

    /** The code without comments, and with empty texts. */
    private static String bare(String source) {
        return source.replaceAll("(?s)/\\*.*?\\*/", "").replaceAll("//[^\\n]*", "").replaceAll("\"[^\"\\n]*\"", "\"\"");
    }

    private static boolean found(String pattern, String code) {
        return Pattern.compile(pattern).matcher(code).find();
    }

    private static int count(String pattern, String code) {
        Matcher matcher = Pattern.compile(pattern).matcher(code);
        int number = 0;
        while (matcher.find()) {
            number++;
        }
        return number;
    }

    /** Rule 11: methods are short and take seven numbers at most. */
    private static void methods(Check check, String code) {
        Matcher head = Pattern.compile("\\n( +)[\\w \\[\\]]*\\b(\\w+)\\(([^()]*)\\) \\{\\n").matcher(code);
        int number = 0;
        while (head.find()) {
            if (head.group().matches("(?s)\\s*(if|for|while|switch|\\} else).*")) {
                continue;
            }
            number++;
            int end = code.indexOf("\n" + head.group(1) + "}\n", head.end());
            int lines = code.substring(head.start(), end).split("\n").length;
            check.isTrue("rule 11: " + head.group(2) + " has " + lines + " lines", lines <= 60);
            check.isTrue("rule 11: " + head.group(2) + " takes seven at most", head.group(3).split(",").length <= 7);
        }
        check.isTrue("methods were found: " + number, number > 60);
    }

    /** The one room: rows are made with the object, none by a call. */
    private static void made(Check check, String code) {
        for (String line : code.split("\n")) {
            boolean field = line.matches("\\s+(private )?final [\\w\\[\\]]+ \\w+ = new .*");
            boolean maker = line.matches("\\s+(images|ring)\\[i\\] = new Promises\\(\\);");
            check.isTrue("made by a call: " + line, !found("\\bnew ", line) || field || maker);
        }
    }
}
