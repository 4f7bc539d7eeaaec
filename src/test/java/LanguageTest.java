import java.io.IOException;
import java.nio.file.Files;
import java.nio.file.Path;
import java.util.regex.Matcher;
import java.util.regex.Pattern;

/** Some of the rules of ../shared/LANGUAGE.md, by the program's words. */
public final class LanguageTest {
    private static final String[] FORBIDDEN = {"throw", "throws", "try", "catch", "finally", "synchronized", "assert",
        "volatile", "transient", "native", "strictfp", "Thread", "Random", "System\\.(?!arraycopy)\\w+", "Object",
        "equals", "hashCode", "toString", "\\w+Exact", "getClass", "MAX_VALUE", "MIN_VALUE", "->", "::", "protected", "var", "Exception"};

    public static void main(String[] args) throws IOException {
        String source = Files.readString(Path.of("src/main/java/SewnYear.java"));
        String code = source.replaceAll("(?s)/\\*.*?\\*/", " ").replaceAll("//[^\\n]*", " ")
            .replaceAll("\"[^\"\\n]*\"", "\"\"");
        for (String word : FORBIDDEN) {
            boolean sign = !Character.isLetter(word.charAt(0)) && word.charAt(0) != '\\' && word.charAt(0) != 'S';
            Matcher found = Pattern.compile(sign ? word : "\\b(?:" + word + ")\\b").matcher(code);
            Due.is("found " + word, found.find(), false);
        }
        Due.is("package line", Pattern.compile("(?m)^package").matcher(code).find(), false);
        Matcher imports = Pattern.compile("(?m)^import (.*);").matcher(code);
        while (imports.find()) {
            Due.is(imports.group(1), imports.group(1).equals("java.util.Arrays"), true);
        }
        int classes = 0;
        Matcher kinds = Pattern.compile("\\b(class|record|enum|interface)\\s+\\w+").matcher(code);
        while (kinds.find()) {
            classes++;
        }
        Due.is("at most twelve classes", classes <= 12, true);
        shapes(code);
        face(code);
        Due.end();
    }

    /** Methods of at most sixty lines and seven parameters. */
    private static void shapes(String code) {
        Matcher head = Pattern.compile("(?m)^( {4}| {8})[^ }].*\\((.*)\\) \\{$").matcher(code);
        int methods = 0;
        while (head.find()) {
            int end = code.indexOf("\n" + head.group(1) + "}\n", head.end());
            String body = code.substring(head.end(), end);
            Due.is("lines of " + head.group().trim(), body.chars().filter(c -> c == '\n').count() <= 60, true);
            Due.is("parameters of " + head.group().trim(), head.group(2).split(",").length <= 7, true);
            methods++;
        }
        Due.is("many methods", methods > 100, true);
    }

    /** The public face: its members, once each, and none that bears a name of it. */
    private static void face(String code) {
        String[] names = {"feed", "end", "text", "fault", "coat", "deed", "stop", "state", "orders", "order", "sewn",
            "parted", "town", "done", "rounds", "cloth", "fact", "fits", "sure", "drawn", "under", "hands", "spools",
            "grown", "home", "way", "enough", "count", "image", "again"};
        int publics = 0;
        Matcher found = Pattern.compile("\\bpublic\\b").matcher(code);
        while (found.find()) {
            publics++;
        }
        Due.is("publics", publics, names.length + 3);
        for (String name : names) {
            Matcher at = Pattern.compile("\\b(?:int|long|boolean|void|String|\\w+)\\s+" + name + "\\s*\\([^)]*\\)\\s*\\{")
                .matcher(code);
            int n = 0;
            while (at.find()) {
                n++;
            }
            Due.is("methods called " + name, n, 1);
        }
    }
}
