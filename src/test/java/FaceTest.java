import java.io.IOException;
import java.lang.reflect.Constructor;
import java.lang.reflect.Field;
import java.lang.reflect.Method;
import java.lang.reflect.Modifier;
import java.nio.file.Files;
import java.nio.file.Path;
import java.util.ArrayList;
import java.util.Collections;
import java.util.List;

/** The public face, and what of LANGUAGE.md can be seen from outside of the methods. */
final class FaceTest {
    private static final String[] FACE = {
        "boolean isCovered(int) throws IndexOutOfBoundsException",
        "boolean isSeen()",
        "double meanClarity()",
        "int bestClarityOf(int) throws IndexOutOfBoundsException",
        "int bestOffset(int) throws IndexOutOfBoundsException",
        "int bestToClean()",
        "int cancelJob(int) throws IndexOutOfBoundsException",
        "int clarityOf(int) throws IndexOutOfBoundsException",
        "int dustMirror(int,int) throws IndexOutOfBoundsException,IllegalArgumentException",
        "int errorAt()",
        "int feed(int,int,int,int,int) throws IllegalStateException",
        "int jobs()",
        "int jobsDone()",
        "int kindOfJob(int) throws IndexOutOfBoundsException",
        "int lightAfter(int) throws IllegalArgumentException",
        "int lightAtEnd()",
        "int lightBehind(int) throws IndexOutOfBoundsException",
        "int lostAt(int) throws IndexOutOfBoundsException",
        "int minutes()",
        "int minutesToGo()",
        "int minutesUntilDone(int) throws IndexOutOfBoundsException",
        "int minutesUntilSeen()",
        "int mirrorAt(int) throws IndexOutOfBoundsException",
        "int mirrorOfJob(int) throws IndexOutOfBoundsException",
        "int mirrors()",
        "int moveMirror(int,int) throws IndexOutOfBoundsException",
        "int offsetOf(int) throws IndexOutOfBoundsException",
        "int orderJob(int,int) throws IndexOutOfBoundsException,IllegalArgumentException,IllegalStateException",
        "int orders()",
        "int passMinutes(int) throws IllegalArgumentException",
        "int placeOf(int) throws IndexOutOfBoundsException",
        "int tapeBytes()",
        "int teach()",
        "int tiltAtEnd()",
        "int tiltBehind(int) throws IndexOutOfBoundsException",
        "int trim(int) throws IllegalArgumentException",
        "int turnMirror(int,int) throws IndexOutOfBoundsException,IllegalArgumentException",
        "int worstMirror() throws IllegalStateException",
        "long digest()",
    };

    private FaceTest() {
    }

    public static void main(String[] args) throws IOException {
        publicMethods();
        otherMembers();
        wordsOfTheSource();
        Check.end();
    }

    private static void publicMethods() {
        List<String> face = new ArrayList<>();
        for (Method method : PeriscopeTrain.class.getDeclaredMethods()) {
            if (Modifier.isPublic(method.getModifiers())) {
                face.add(signature(method));
            }
        }
        Collections.sort(face);
        Check.same("the public methods", String.join("\n", face), String.join("\n", FACE));
    }

    private static String signature(Method method) {
        StringBuilder text = new StringBuilder(method.getReturnType().getSimpleName());
        text.append(' ').append(method.getName()).append('(').append(names(method.getParameterTypes())).append(')');
        String thrown = names(method.getExceptionTypes());
        return thrown.isEmpty() ? text.toString() : text.append(" throws ").append(thrown).toString();
    }

    private static String names(Class<?>[] types) {
        List<String> names = new ArrayList<>();
        for (Class<?> type : types) {
            names.add(type.getSimpleName());
        }
        return String.join(",", names);
    }

    private static void otherMembers() {
        Class<PeriscopeTrain> face = PeriscopeTrain.class;
        Check.holds("a public and final class", face.getModifiers() == (Modifier.PUBLIC | Modifier.FINAL));
        Constructor<?>[] constructors = face.getDeclaredConstructors();
        Check.same("constructors", constructors.length, 1);
        Check.same("parameters of the constructor", constructors[0].getParameterCount(), 0);
        Check.holds("a public constructor", Modifier.isPublic(constructors[0].getModifiers()));
        for (Field field : face.getDeclaredFields()) {
            Check.holds("private " + field.getName(), Modifier.isPrivate(field.getModifiers()));
        }
        for (Method method : face.getDeclaredMethods()) {
            boolean isPublic = Modifier.isPublic(method.getModifiers());
            Check.holds("public or private " + method.getName(),
                    isPublic || Modifier.isPrivate(method.getModifiers()) && !isOfTheFace(method));
        }
        Check.holds("at most 12 classes", face.getDeclaredClasses().length < 12);
        for (Class<?> inner : face.getDeclaredClasses()) {
            Check.holds("static " + inner.getName(), Modifier.isStatic(inner.getModifiers()));
            Check.holds("private " + inner.getName(), Modifier.isPrivate(inner.getModifiers()));
            for (Method method : inner.getDeclaredMethods()) {
                Check.fails("a name of the face for " + method, isOfTheFace(method));
            }
        }
    }

    private static boolean isOfTheFace(Method method) {
        for (String signature : FACE) {
            if (signature.contains(" " + method.getName() + "(")) {
                return true;
            }
        }
        return false;
    }

    private static void wordsOfTheSource() throws IOException {
        String source = Files.readString(Path.of("src/main/java/PeriscopeTrain.java"));
        String[] refused = {"import ", "package ", "catch", "finally", "try {", "->", "::", "synchronized", "assert ",
            "instanceof", "Exact(", "System.out", "System.err", "System.nano", "System.current", "Thread", "Random",
            "hashCode", "@SuppressWarnings", "while (true)", "for (;;)"};
        for (String word : refused) {
            Check.fails("\"" + word + "\" in the source", source.contains(word));
        }
    }
}
