import java.io.IOException;
import java.nio.file.Files;
import java.nio.file.Path;
import java.util.regex.Matcher;
import java.util.regex.Pattern;

// What README.md tells of the class: the calls of its code, one after the other on one new object, with the answers behind them.
public final class ReadmeTests extends Rows {
    private static final Pattern CALL = Pattern.compile("x\\.(\\w+)\\(([-\\d, ]*)\\);\\s+// (-?\\d+)\\b.*");
    private static final Pattern TEXT = Pattern.compile("for \\(char sign : \"([^\"]*)\"\\.toCharArray\\(\\)\\) \\{");
    private static final int LEAST_CALLS = 25;

    private ReadmeTests() {
        super("README.md");
    }

    private void read() throws IOException {
        boolean inCode = false;
        int told = 0;
        for (String line : Files.readAllLines(Path.of("README.md"))) {
            if (line.startsWith("```")) {
                inCode = line.equals("```java");
            } else if (inCode) {
                told += row(line);
            }
        }
        if (told < LEAST_CALLS) {
            complain("only " + told + " answers were found in it");
        }
    }

    private int row(String line) {
        Matcher text = TEXT.matcher(line);
        if (text.matches()) {
            for (char sign : text.group(1).toCharArray()) {
                ask("say " + (int) sign);
            }
            return 0;
        }
        Matcher call = CALL.matcher(line);
        if (call.matches()) {
            due((call.group(1) + " " + call.group(2).replace(",", "")).trim(), Integer.parseInt(call.group(3)));
            return 1;
        }
        if (!line.equals("}") && !line.startsWith("    x.say(sign);") && !line.startsWith("AgingMen x = ")) {
            complain("'" + line + "' tells no answer");
        }
        return 0;
    }

    public static void main(String[] args) throws IOException {
        new ReadmeTests().read();
        end("README.md tells what is");
    }
}
