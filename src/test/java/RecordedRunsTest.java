import java.io.IOException;
import java.nio.file.DirectoryStream;
import java.nio.file.Files;
import java.nio.file.Path;

/** Plays the runs under src/test/runs: a line is "new", or a call and its answer with " = " between. */
final class RecordedRunsTest {
    private RecordedRunsTest() {
    }

    public static void main(String[] args) throws IOException, IllegalAccessException {
        int files = 0;
        try (DirectoryStream<Path> runs = Files.newDirectoryStream(Path.of("src/test/runs"), "*.txt")) {
            for (Path file : runs) {
                play(file);
                files++;
            }
        }
        Check.holds("some recorded runs", files > 0);
        Check.end();
    }

    private static void play(Path file) throws IOException, IllegalAccessException {
        PeriscopeTrain x = new PeriscopeTrain();
        int line = 0;
        for (String text : Files.readAllLines(file)) {
            line++;
            if (text.equals("new")) {
                x = new PeriscopeTrain();
            } else {
                String[] parts = text.split(" = ");
                Check.same(file.getFileName() + ":" + line + " " + parts[0], answer(x, parts[0]), parts[1]);
            }
        }
    }

    private static String answer(PeriscopeTrain x, String call) throws IllegalAccessException {
        String[] words = call.split(" ");
        Integer[] arguments = new Integer[words.length - 1];
        for (int i = 0; i < arguments.length; i++) {
            arguments[i] = Integer.valueOf(words[i + 1]);
        }
        return Calls.answer(x, words[0], arguments);
    }
}
