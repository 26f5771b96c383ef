import java.io.IOException;
import java.nio.file.Files;
import java.nio.file.Path;
import java.util.TreeSet;
import java.util.function.IntConsumer;

/**
 * The sentence of the document that is tested next. Its words are looked up in the document, in the part where they
 * should stand, so that no test can be for a sentence that is not there.
 */
final class Sentence {
    private static final int PROMISES = 42;
    private static final String DOCUMENT = read(Path.of("../shared/DOC.md"));
    private static final TreeSet<Integer> named = new TreeSet<>();

    private static String current = "no sentence";

    private Sentence() {
    }

    static void face(String words) {
        begin("face", part("# LostMuseum", "## Terms"), words);
    }

    static void terms(String words) {
        begin("terms", part("## Terms", "==== 2."), words);
    }

    static void steps(String words) {
        begin("2", part("==== 2.", "==== 3."), words);
    }

    static void asked(String words) {
        begin("3", part("==== 3.", "## Promise 1:"), words);
    }

    static void promise(int number, String words) {
        named.add(number);
        String next = number < PROMISES ? "## Promise " + (number + 1) + ":" : "## Not promised";
        begin("promise " + number, part("## Promise " + number + ":", next), words);
    }

    static void due(long got, long due) {
        Check.same(label(), got, due);
    }

    static void due(boolean got, boolean due) {
        Check.same(label(), got ? 1 : 0, due ? 1 : 0);
    }

    static void due(String got, String due) {
        Check.holds(label() + ": '" + got + "', due is '" + due + "'", got.equals(due));
    }

    static void missing(Runnable call) {
        Check.missing(label(), call);
    }

    static void illegal(Runnable call) {
        Check.illegal(label(), call);
    }

    /** A number may be from least to most: both are taken, and nothing beside them. */
    static void range(int least, int most, IntConsumer call) {
        Check.fine(label() + " with " + least, () -> call.accept(least));
        Check.fine(label() + " with " + most, () -> call.accept(most));
        for (int n : new int[] {least - 1, most + 1, Integer.MIN_VALUE, Integer.MAX_VALUE}) {
            Check.illegal(label() + " with " + n, () -> call.accept(n));
        }
    }

    /** Of ROOMS, DOORS or TOURS there are so many: the first and the last are there, and none beside them. */
    static void there(int many, IntConsumer call) {
        Check.fine(label() + " with 0", () -> call.accept(0));
        Check.fine(label() + " with " + (many - 1), () -> call.accept(many - 1));
        for (int n : new int[] {-1, many, Integer.MIN_VALUE, Integer.MAX_VALUE}) {
            Check.missing(label() + " with " + n, () -> call.accept(n));
        }
    }

    static void promisesWereNamed(int first, int last) {
        for (int n = first; n <= last; n++) {
            Check.holds("promise " + n + " has a sentence with a test", named.contains(n));
        }
    }

    private static void begin(String place, String part, String words) {
        current = place + " \"" + words + "\"";
        Check.holds(current + " stands in the document", part.contains(words));
    }

    private static String label() {
        int line = StackWalker.getInstance().walk(frames -> frames
            .filter(f -> !f.getClassName().startsWith("Sentence")).findFirst().map(f -> f.getLineNumber()).orElse(0));
        return current + " (line " + line + ")";
    }

    private static String part(String from, String to) {
        int begin = DOCUMENT.indexOf(from);
        int end = DOCUMENT.indexOf(to, begin);
        return begin < 0 || end < 0 ? "" : DOCUMENT.substring(begin, end);
    }

    private static String read(Path path) {
        try {
            return Files.readString(path).replaceAll("\\s+", " ");
        } catch (IOException e) {
            throw new IllegalStateException(e);
        }
    }
}
