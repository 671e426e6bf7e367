import java.io.IOException;
import java.io.UncheckedIOException;
import java.nio.file.Files;
import java.nio.file.Path;
import java.util.Arrays;

/** ../shared/DOC.md: words that a test quotes must stand there, and no words of it may be left unquoted. */
final class Document {
    /** 'What it is' is quoted as if it were one promise more. */
    static final int WHAT_IT_IS = 40;
    private static final int PROMISES = 39;
    private static final Path PLACE = Path.of("../shared/DOC.md");

    /** Empty if the document is not at hand: then the calls are tested all the same. */
    private final String text;
    private final boolean[] quoted;
    /** Where the terms (0), each promise, and 'What it is' begin and end. */
    private final int[] begins = new int[WHAT_IT_IS + 1];
    private final int[] ends = new int[WHAT_IT_IS + 1];

    Document() {
        text = read();
        quoted = new boolean[text.length()];
        if (text.isEmpty()) {
            System.out.println(PLACE + " is not there: what the tests quote is not looked up");
            return;
        }
        for (int promise = 0; promise <= WHAT_IT_IS; promise++) {
            String head = headOf(promise);
            begins[promise] = find(head, 0, text.length()) + head.length();
            int end = text.indexOf(" ## ", begins[promise]);
            ends[promise] = end < 0 ? text.length() : end;
        }
        passOver();
    }

    private static String headOf(int promise) {
        if (promise == WHAT_IT_IS) {
            return "## What it is ";
        }
        return promise == 0 ? "## Terms " : "## Promise " + promise + ": ";
    }

    private static String read() {
        try {
            return Files.exists(PLACE) ? Files.readString(PLACE).replaceAll("\\s+", " ") : "";
        } catch (IOException e) {
            throw new UncheckedIOException(e);
        }
    }

    private int find(String words, int from, int to) {
        int place = text.indexOf(words, from);
        if (place < 0 || place + words.length() > to) {
            throw new IllegalStateException("the document does not say: " + words);
        }
        return place;
    }

    /** Headings, the names of calls and what the interface says ahead of them need no test of their own. */
    private void passOver() {
        for (int promise = 1; promise <= PROMISES; promise++) {
            int from = begins[promise];
            mark(from, text.indexOf("`:", from));
        }
        mark(find("Ahead of the calls", begins[0], ends[0]), ends[0]);
        for (int part = 1; part <= 5; part++) {
            String head = "======== " + part;
            int place = find(head, begins[0], ends[0]);
            mark(place, place + head.length());
        }
        for (int place = text.indexOf("```text"); place >= 0; place = text.indexOf("```text", place + 1)) {
            mark(place, place + "```text".length());
        }
    }

    private void mark(int from, int to) {
        Arrays.fill(quoted, from, to, true);
    }

    /** The words stand in the promise, or else in the terms. */
    void quote(int promise, String words) {
        if (text.isEmpty()) {
            return;
        }
        int place = text.indexOf(words, begins[promise]);
        if (place < 0 || place + words.length() > ends[promise]) {
            place = find(words, begins[0], ends[0]);
        }
        mark(place, place + words.length());
    }

    /** Letters and digits that no test has quoted are wrong answers. */
    void isWhole(Due due) {
        for (int promise = 0; promise <= WHAT_IT_IS; promise++) {
            StringBuilder left = new StringBuilder();
            for (int i = begins[promise]; i < ends[promise]; i++) {
                left.append(quoted[i] ? '.' : text.charAt(i));
            }
            int open = left.toString().replaceAll("[^A-Za-z0-9]", "").length();
            String words = left.toString().replaceAll("\\.[ .]*\\.", " .. ");
            String where = "promise " + promise + " (0: terms, 40: what it is)";
            due.is(where + ", letters that no test quotes: " + words, open, 0);
        }
    }
}
