import java.io.IOException;
import java.nio.file.DirectoryStream;
import java.nio.file.Files;
import java.nio.file.Path;
import java.util.regex.Matcher;
import java.util.regex.Pattern;

/** What README.md shows: each call answers the number behind it, and every test is named. */
public final class ReadmeTest {
    private static final Check check = new Check();
    private static final Pattern BLOCK = Pattern.compile("(?s)```java\n(.*?)```");
    private static final Pattern TOLD = Pattern.compile("for \\(char letter : \"(.*)\"\\.toCharArray\\(\\)\\) \\{");
    private static final Pattern CALL = Pattern.compile("x\\.(\\w+)\\((.*)\\); +// (-?\\d+)(:.*)?");

    public static void main(String[] args) throws IOException {
        String readme = Files.readString(Path.of("README.md"));
        int shown = 0;
        Matcher block = BLOCK.matcher(readme);
        while (block.find()) {
            shown += show(block.group(1));
        }
        check.due("calls are shown", shown > 20 ? 1 : 0, 1);
        testsAreNamed(readme);
        check.end();
    }

    /** How many calls a block shows; one without an answer behind it types the letter of the loop. */
    private static int show(String block) {
        KnotNames x = null;
        int shown = 0;
        for (String line : block.split("\n")) {
            Matcher told = TOLD.matcher(line);
            Matcher call = CALL.matcher(line);
            if (line.equals("KnotNames x = new KnotNames();")) {
                x = new KnotNames();
            } else if (told.matches()) {
                for (char letter : told.group(1).toCharArray()) {
                    x.type(letter);
                }
            } else if (call.matches()) {
                String text = (call.group(1) + " " + call.group(2).replace(",", "")).trim();
                check.due("README.md: " + line, Call.make(x, text), Long.parseLong(call.group(3)));
                shown++;
            } else {
                check.due("a line that shows nothing", line.trim().matches("x\\.type\\(letter\\);|}") ? "" : line, "");
            }
        }
        return shown;
    }

    private static void testsAreNamed(String readme) throws IOException {
        try (DirectoryStream<Path> tests = Files.newDirectoryStream(Path.of("src/test/java"), "*Test.java")) {
            for (Path test : tests) {
                String name = test.getFileName().toString().replace(".java", "");
                boolean isOfAPromise = name.matches("Promise(0[1-9]|[12][0-9]|3[0-2])Test");
                check.due(name + " is named", isOfAPromise || readme.contains("| " + name + " |") ? 1 : 0, 1);
            }
        }
    }
}
