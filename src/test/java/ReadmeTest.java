import java.io.IOException;
import java.lang.reflect.Method;
import java.nio.file.Files;
import java.nio.file.Path;
import java.util.regex.Matcher;
import java.util.regex.Pattern;

/** The examples of README.md, called line by line: each answers what it says beside it. */
public final class ReadmeTest {
    private static final Pattern BLOCK = Pattern.compile("(?s)```java\n(.*?)```");
    private static final Pattern MADE = Pattern.compile("SeedBank bank = new SeedBank\\(\\);.*");
    private static final Pattern CALL =
            Pattern.compile("bank\\.(\\w+)\\(([-0-9, ]*)\\); *// (-?\\d+)(:.*)?");
    private static final Pattern TEXT = Pattern.compile("for .* \"(\\S+)\"\\.toCharArray.*");

    public static void main(String[] args) throws Exception {
        Matcher blocks = BLOCK.matcher(Files.readString(Path.of("README.md")));
        int lines = 0;
        while (blocks.find()) {
            lines += holdBlock(blocks.group(1));
        }
        Checks.holds("README.md has examples", lines > 20);
        namesEachTest();
        Checks.end();
    }

    private static int holdBlock(String block) throws Exception {
        SeedBank bank = null;
        int lines = 0;
        for (String line : block.split("\n")) {
            String told = line.trim();
            Matcher call = CALL.matcher(told);
            Matcher text = TEXT.matcher(told);
            if (MADE.matcher(told).matches()) {
                bank = new SeedBank();
            } else if (call.matches()) {
                Checks.due("README " + told, answer(bank, call.group(1), call.group(2)),
                        Long.parseLong(call.group(3)));
                lines++;
            } else if (text.matches()) {
                Checks.say(bank, text.group(1));
            } else {
                Checks.holds("README line is read: " + told, told.isEmpty() || told.equals("}")
                        || told.equals("bank.say(sign);") || told.startsWith("//"));
            }
        }
        return lines;
    }

    private static long answer(SeedBank bank, String name, String list) throws Exception {
        String[] words = list.isBlank() ? new String[0] : list.split(", *");
        Object[] values = new Object[words.length];
        for (int i = 0; i < words.length; i++) {
            values[i] = Integer.parseInt(words[i].trim());
        }
        for (Method method : SeedBank.class.getMethods()) {
            if (method.getName().equals(name) && method.getParameterCount() == values.length) {
                return ((Number) method.invoke(bank, values)).longValue();
            }
        }
        Checks.holds("there is a call " + name, false);
        return 0;
    }

    private static void namesEachTest() throws IOException {
        String readme = Files.readString(Path.of("README.md"));
        try (var files = Files.list(Path.of("src/test/java"))) {
            files.map(file -> file.getFileName().toString().replace(".java", ""))
                    .forEach(name -> Checks.holds("README names " + name,
                            readme.contains("`" + name + "`")));
        }
    }
}
