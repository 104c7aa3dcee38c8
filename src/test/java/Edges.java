import java.nio.file.Files;
import java.nio.file.Path;
import java.util.ArrayList;
import java.util.Arrays;
import java.util.List;

/**
 * Sentences of the document that name an edge, each quoted, with a test of its own. With -Ddoc= and
 * the path of the document, quotes that are not there and words that no test quotes are told.
 */
abstract class Edges extends Checks {
    private static final List<String> NOTES = new ArrayList<>();
    private static String section = "";
    private static String words;
    private static boolean[] quoted = {};
    private static int edges;

    static void terms() {
        begin("Terms");
    }

    static void promise(int number) {
        begin("Promise " + number + ":");
    }

    static void edge(String sentence, Runnable test) {
        edges++;
        about = section + " " + sentence;
        quote(sentence);
        test.run();
    }

    static void finishEdges() {
        noteUnquoted();
        NOTES.forEach(System.out::println);
        finish(edges + " edges hold");
    }

    private static void begin(String name) {
        noteUnquoted();
        section = name;
        String path = System.getProperty("doc");
        words = path == null ? null : wordsOf(path, name);
        quoted = new boolean[words == null ? 0 : words.length()];
    }

    /** What stands under a heading, in one line. */
    private static String wordsOf(String path, String name) {
        try {
            String all = Files.readString(Path.of(path)).replace("```text", "").replace("```", "");
            int from = all.indexOf("## " + name);
            int behind = all.indexOf("\n", from);
            int to = all.indexOf("\n## ", behind);
            return all.substring(behind, to).replaceAll("\\s+", " ");
        } catch (java.io.IOException e) {
            throw new java.io.UncheckedIOException(e);
        }
    }

    private static void quote(String sentence) {
        if (words == null) {
            return;
        }
        int at = words.indexOf(sentence);
        if (at < 0) {
            NOTES.add(section + " not in the document: " + sentence);
        } else {
            Arrays.fill(quoted, at, at + sentence.length(), true);
        }
    }

    private static void noteUnquoted() {
        StringBuilder rest = new StringBuilder();
        for (int i = 0; i < quoted.length; i++) {
            rest.append(quoted[i] ? '|' : words.charAt(i));
        }
        if (rest.length() > 0) {
            NOTES.add(section + rest.toString().replaceAll("\\|+", " | "));
        }
        quoted = new boolean[0];
    }
}
