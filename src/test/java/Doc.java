import java.io.IOException;
import java.nio.file.Files;
import java.nio.file.Path;
import java.util.Arrays;
import java.util.Map;
import java.util.TreeMap;

/** The document, as far as tests quote it: which of its words an edge test stands for, and which none does. */
final class Doc {
    static final int TERMS = 0;
    private static final Path FILE = Path.of("../shared/DOC.md");
    private final Map<Integer, String> parts = new TreeMap<>();
    private final Map<Integer, boolean[]> quoted = new TreeMap<>();

    Doc() throws IOException {
        String all = Files.readString(FILE).replaceAll("(?m)^```.*$", " ");
        for (String section : all.split("(?m)^## ")) {
            if (section.startsWith("Terms")) {
                add(TERMS, section.substring("Terms".length()));
            } else if (section.startsWith("Promise ")) {
                int number = Integer.parseInt(section.substring("Promise ".length(), section.indexOf(':')));
                // what stands ahead of the second colon is the heading and the call's face
                add(number, section.substring(section.indexOf("`: ") + 3));
            }
        }
    }

    private void add(int part, String words) {
        String plain = words.replaceAll("\\s+", " ").trim();
        parts.put(part, plain);
        quoted.put(part, new boolean[plain.length()]);
    }

    /** The test that calls this is the one for these words of the document (of TERMS or of a promise). */
    void says(int part, String words) {
        String plain = parts.getOrDefault(part, "");
        int at = plain.indexOf(words);
        Kit.due("part " + part + " of the document says '" + words + "'", at >= 0 ? 1 : 0, 1);
        if (at >= 0) {
            Arrays.fill(quoted.get(part), at, at + words.length(), true);
        }
    }

    /** Every word of every promise, and of the terms, has been quoted by a test. */
    void checkAllQuoted() {
        Kit.due("parts of the document", parts.size(), 35);
        for (int part : parts.keySet()) {
            String plain = parts.get(part);
            StringBuilder left = new StringBuilder();
            for (int i = 0; i < plain.length(); i++) {
                left.append(quoted.get(part)[i] ? '|' : plain.charAt(i));
            }
            String rest = left.toString().replaceAll("=+ [1-5]\\.", " ").replaceAll("[|\\s]+", " ").trim();
            Kit.due("words of part " + part + " that no test quotes: '" + rest + "'", rest.length(), 0);
        }
    }
}
