import java.io.IOException;
import java.nio.file.Files;
import java.nio.file.Path;
import java.util.List;
import java.util.regex.Matcher;
import java.util.regex.Pattern;

/** What LANGUAGE.md asks of the program's text, as far as a look at its words tells. */
public final class LanguageTest {
    private static final List<String> WORDS_OUT = List.of("throw", "throws", "try", "catch",
            "synchronized", "assert", "package", "native", "volatile", "transient", "protected");
    private static final List<String> SIGNS_OUT = List.of("->", "::", "@");

    public static void main(String[] args) throws IOException {
        String text = Files.readString(Path.of("src/main/java/SeedBank.java"));
        for (int i = 0; i < text.length(); i++) {
            if (text.charAt(i) > 126) {
                Checks.holds("sign " + i + " is plain", false);
            }
        }
        String code = text.replaceAll("(?s)/\\*.*?\\*/", "").replaceAll("//[^\n]*", "");
        for (String word : WORDS_OUT) {
            Checks.holds("no " + word, !Pattern.compile("\\b" + word + "\\b").matcher(code).find());
        }
        for (String sign : SIGNS_OUT) {
            Checks.holds("no " + sign, !code.contains(sign));
        }
        objectsAreMadeInFieldsOnly(code);
        methodsAreShort(code);
        Checks.end();
    }

    /** All rows are made with their object: each 'new' stands in a final field's initialiser. */
    private static void objectsAreMadeInFieldsOnly(String code) {
        for (String line : code.split("\n")) {
            if (Pattern.compile("\\bnew\\b").matcher(line).find()) {
                Checks.holds("made in a final field: " + line.trim(),
                        Pattern.compile("^\\s+(private )?final [A-Za-z]+(\\[\\])? \\w+ = new ")
                                .matcher(line).find());
            }
        }
    }

    private static void methodsAreShort(String code) {
        Matcher head = Pattern.compile("(?m)^( {4}| {8})[a-z][A-Za-z ]* \\w+\\(([^)]*)\\) \\{$")
                .matcher(code);
        int methods = 0;
        while (head.find()) {
            methods++;
            String name = head.group().trim();
            int end = code.indexOf("\n" + head.group(1) + "}", head.end());
            long lines = code.substring(head.start(), end).lines().count();
            Checks.holds(name + " is short", lines <= 60);
            Checks.holds(name + " takes few parameters", head.group(2).split(",").length <= 7);
        }
        Checks.holds("the methods are found", methods > 60);
    }
}
