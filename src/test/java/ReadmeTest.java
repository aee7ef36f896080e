import java.nio.file.Files;
import java.nio.file.Path;
import java.util.regex.Matcher;
import java.util.regex.Pattern;

/** The examples of README.md answer what is told there. */
public final class ReadmeTest {
    private static final Pattern BLOCK = Pattern.compile("(?s)```java\n(.*?)```");
    private static final Pattern ROW = Pattern.compile("x\\.(\\w+)\\((.*)\\); +// (-?\\w+).*");

    private static int number(String s) throws ReflectiveOperationException {
        return s.matches("[A-Z]+") ? StrawGarrison.class.getField(s).getInt(null) : Integer.decode(s);
    }

    private static int[] arguments(String s) throws ReflectiveOperationException {
        String[] parts = s.isEmpty() ? new String[0] : s.split(", ");
        int[] all = new int[parts.length];
        for (int i = 0; i < all.length; i++) {
            all[i] = number(parts[i].replace("x.", ""));
        }
        return all;
    }

    public static void main(String[] args) throws Exception {
        Matcher blocks = BLOCK.matcher(Files.readString(Path.of("README.md")));
        while (blocks.find()) {
            Run x = new Run("README.md");
            for (String line : blocks.group(1).split("\n")) {
                Matcher row = ROW.matcher(line);
                boolean told = row.matches();
                Checks.holds("a call and its answer: " + line, told);
                if (told) {
                    x.due(number(row.group(3)), row.group(1), arguments(row.group(2)));
                }
            }
        }
        Checks.end();
    }
}
