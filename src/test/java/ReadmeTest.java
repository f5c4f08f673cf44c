import java.lang.reflect.Method;
import java.lang.reflect.Modifier;
import java.nio.file.Files;
import java.nio.file.Path;
import java.util.regex.Matcher;
import java.util.regex.Pattern;

/** Promises 1 to 53, as README.md tells how to use them: its calls answer what it says. */
public final class ReadmeTest {
    private static final Pattern TEXT = Pattern.compile("put\\(x, \"(.*)\"\\);");
    private static final Pattern CALL =
        Pattern.compile("x\\.(\\w+)\\(([-0-9, ]*)\\); +// (-?[0-9]+): .*");

    public static void main(String[] args) throws Exception {
        String readme = Files.readString(Path.of("README.md"));
        calls(readme);
        names(readme);
        Check.close("ReadmeTest");
    }

    private static void calls(String readme) {
        StreamersHeld x = new StreamersHeld();
        int from = readme.indexOf("\nStreamersHeld x = new StreamersHeld();\n");
        Check.that("README.md shows calls", from > 0, true);
        String[] lines = readme.substring(from, readme.indexOf("\n```", from)).split("\n");
        for (int i = 2; i < lines.length; i++) {
            Matcher text = TEXT.matcher(lines[i]);
            Matcher call = CALL.matcher(lines[i]);
            if (text.matches()) {
                Check.put(x, text.group(1));
            } else if (call.matches()) {
                String numbers = call.group(2).replace(",", "");
                String told = call.group(1) + (numbers.isEmpty() ? "" : " " + numbers);
                Check.that(lines[i], Check.call(x, told), Long.parseLong(call.group(3)));
            } else {
                Check.that("a line that can be read", lines[i], "a text or a call");
            }
        }
    }

    private static void names(String readme) {
        for (Method m : StreamersHeld.class.getDeclaredMethods()) {
            if (Modifier.isPublic(m.getModifiers())) {
                Check.that("README.md's table has " + m.getName(),
                    readme.contains("`" + m.getName() + "` "), true);
            }
        }
    }
}
