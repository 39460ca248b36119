import java.io.IOException;
import java.nio.file.Files;
import java.nio.file.Path;
import java.util.regex.Matcher;
import java.util.regex.Pattern;

/** Makes the calls of README.md, from its first line to its last, on one object. */
final class ReadmeTest {
    // A call and its answer; a remark can stand behind that and two blanks.
    private static final Pattern CALL =
            Pattern.compile("x\\.(\\w+)\\(([^()]*)\\); *// (throws \\w+|-?[\\w.]+)(  .*)?");

    private ReadmeTest() {
    }

    public static void main(String[] args) throws IOException, IllegalAccessException {
        String readme = Files.readString(Path.of("README.md"));
        answersAreAsTold(readme);
        allCallsAreNamed(readme);
        Check.end();
    }

    private static void answersAreAsTold(String readme) throws IllegalAccessException {
        PeriscopeTrain x = new PeriscopeTrain();
        int calls = 0;
        for (String line : readme.split("\n")) {
            if (line.startsWith("x.")) {
                Matcher call = CALL.matcher(line);
                boolean isCall = call.matches();
                Check.holds("a call and its answer in " + line, isCall);
                if (isCall) {
                    String due = call.group(3).replace(' ', '.');
                    Check.same(line, Calls.answer(x, call.group(1), arguments(call.group(2))), due);
                    calls++;
                }
            }
        }
        Check.holds("some calls in README.md", calls > 0);
    }

    private static Integer[] arguments(String text) {
        String[] words = text.isEmpty() ? new String[0] : text.split(", ");
        Integer[] arguments = new Integer[words.length];
        for (int i = 0; i < words.length; i++) {
            arguments[i] = Integer.decode(words[i]);
        }
        return arguments;
    }

    private static void allCallsAreNamed(String readme) {
        for (String name : Calls.names()) {
            Check.holds(name + " in README.md", readme.contains("`" + name + "("));
        }
    }
}
