import java.io.IOException;
import java.lang.reflect.InvocationTargetException;
import java.lang.reflect.Method;
import java.nio.file.DirectoryStream;
import java.nio.file.Files;
import java.nio.file.Path;
import java.util.HashMap;
import java.util.Map;

/** Plays the runs under src/test/runs: a line is "new", or a call and its answer with " = " between. */
final class RecordedRunsTest {
    private static final Map<String, Method> CALLS = new HashMap<>();

    private RecordedRunsTest() {
    }

    public static void main(String[] args) throws IOException, IllegalAccessException {
        for (Method method : PeriscopeTrain.class.getMethods()) {
            CALLS.put(method.getName(), method);
        }
        int files = 0;
        try (DirectoryStream<Path> runs = Files.newDirectoryStream(Path.of("src/test/runs"), "*.txt")) {
            for (Path file : runs) {
                play(file);
                files++;
            }
        }
        Check.holds("some recorded runs", files > 0);
        Check.end();
    }

    private static void play(Path file) throws IOException, IllegalAccessException {
        PeriscopeTrain x = new PeriscopeTrain();
        int line = 0;
        for (String text : Files.readAllLines(file)) {
            line++;
            if (text.equals("new")) {
                x = new PeriscopeTrain();
            } else {
                String[] parts = text.split(" = ");
                Check.same(file.getFileName() + ":" + line + " " + parts[0], answer(x, parts[0]), parts[1]);
            }
        }
    }

    private static String answer(PeriscopeTrain x, String call) throws IllegalAccessException {
        String[] words = call.split(" ");
        Object[] arguments = new Object[words.length - 1];
        for (int i = 0; i < arguments.length; i++) {
            arguments[i] = Integer.parseInt(words[i + 1]);
        }
        try {
            return String.valueOf(CALLS.get(words[0]).invoke(x, arguments));
        } catch (InvocationTargetException e) {
            return "throws." + e.getCause().getClass().getSimpleName();
        }
    }
}
