import java.io.IOException;
import java.nio.file.Files;
import java.nio.file.Path;
import java.util.concurrent.Callable;

/**
 * Sentences of the document that name a boundary, each with a test of its own. A sentence is told
 * with where it stands: "Terms 1" to "Terms 6", or "Promise 1" to "Promise 29". The words are looked
 * up there, if the document is given (by -Ddocument=..), so that none is made up.
 */
final class Edges {
    final Due due = new Due();
    private final String document;

    Edges() {
        document = read(System.getProperty("document"));
    }

    private static String read(String path) {
        if (path == null || !Files.isReadable(Path.of(path))) {
            return null;
        }
        try {
            return plain(Files.readString(Path.of(path)));
        } catch (IOException e) {
            throw new IllegalStateException("it can't be read: " + path);
        }
    }

    private static String plain(String text) {
        return text.replaceAll("\\s+", " ");
    }

    /** One sentence, or the part of it that names the boundary, and its test. */
    void sentence(String place, String words, Runnable test) {
        due.about(place + " \"" + words + "\"");
        if (document != null) {
            due.same("the document has these words", partOf(place).contains(words), true);
        }
        int before = due.checks();
        try {
            test.run();
        } catch (RuntimeException e) {
            due.same("a call threw, which", e, "nothing");
        }
        due.same("the test checks something", due.checks() > before, true);
    }

    private String partOf(String place) {
        int number = Integer.parseInt(place.substring(place.indexOf(' ') + 1));
        boolean isPromise = place.startsWith("Promise");
        int from = document.indexOf(isPromise ? "## " + place + ":" : "==== " + number + ".");
        int to = document.indexOf(isPromise ? "## " : "==== ", from + 5);
        int end = document.indexOf("## Promise 1:");
        int last = to >= 0 ? to : isPromise ? document.length() : end;
        return from < 0 ? "" : document.substring(from, last);
    }

    // Short ways to say what is due.

    void is(Object want, String what, Callable<?> call) {
        due.is(want, what, call);
    }

    void noElement(String what, Callable<?> call) {
        due.noElement(what, call);
    }

    void badArgument(String what, Callable<?> call) {
        due.badArgument(what, call);
    }

    /** A new object with this board. */
    FarBoard of(String text) {
        FarBoard board = new FarBoard();
        if (Due.board(board, text) != 0) {
            throw new IllegalStateException("no board: " + text);
        }
        return board;
    }

    /** Makes this the board of an object that had another one. */
    void change(FarBoard board, String text) {
        is(0, "board " + text, () -> Due.board(board, text));
    }

    /** The row of some sides, for walk(). */
    static long row(int... sides) {
        long row = 0;
        for (int i = sides.length - 1; i >= 0; i--) {
            row = row << 3 | sides[i];
        }
        return row;
    }

    /** The row of many sides, one and the other in turn. */
    static long inTurn(int one, int other, int many) {
        int[] sides = new int[many];
        for (int i = 0; i < many; i++) {
            sides[i] = i % 2 == 0 ? one : other;
        }
        return row(sides);
    }
}
