import java.io.IOException;
import java.nio.file.Files;
import java.nio.file.Path;
import java.util.ArrayList;
import java.util.Arrays;
import java.util.List;
import java.util.Map;
import java.util.TreeMap;

/** The document's words: whether they stand there, and which of them no test holds yet. */
final class Doc {
    private static final Path PLACE = Path.of("../shared/DOC.md");

    /** A part of the document, blanks in it made single, and which of its letters some test quotes. */
    private static final class Part {
        final String text;
        final boolean[] held;

        Part(String text) {
            this.text = text.replaceAll("======== \\d|```(text)?|\\s+", " ").replaceAll(" +", " ");
            this.held = new boolean[this.text.length()];
        }

        /** Wherever these words stand as such: "n" is not in "none". */
        boolean hold(String words) {
            boolean stands = false;
            for (int from = text.indexOf(words); from >= 0; from = text.indexOf(words, from + 1)) {
                if (!isWithinWord(from) && !isWithinWord(from + words.length())) {
                    Arrays.fill(held, from, from + words.length(), true);
                    stands = true;
                }
            }
            return stands;
        }

        private boolean isWithinWord(int at) {
            return at > 0 && at < text.length() && Character.isLetterOrDigit(text.charAt(at - 1))
                && Character.isLetterOrDigit(text.charAt(at));
        }

        List<String> left() {
            List<String> left = new ArrayList<>();
            StringBuilder words = new StringBuilder();
            for (int i = 0; i <= text.length(); i++) {
                if (i < text.length() && !held[i]) {
                    words.append(text.charAt(i));
                } else {
                    if (words.toString().matches("(?s).*[A-Za-z0-9].*")) {
                        left.add(words.toString().strip());
                    }
                    words.setLength(0);
                }
            }
            return left;
        }
    }

    private final Map<Integer, Part> promises = new TreeMap<>();
    private final Part terms;
    private final Part aheadOfTerms;

    Doc() throws IOException {
        String all = Files.readString(PLACE);
        int begin = all.indexOf("## Terms");
        int end = all.indexOf("Ahead of the calls");
        terms = new Part(all.substring(begin + "## Terms".length(), end));
        aheadOfTerms = new Part(all.substring(0, begin));
        for (String section : all.split("\n## ")) {
            if (section.startsWith("Promise ")) {
                int number = Integer.parseInt(section.substring(8, section.indexOf(':')));
                promises.put(number, new Part(section.substring(section.indexOf("`: ") + 3)));
            }
        }
    }

    /** Whether these words stand in that promise, or else in what is said of all; a test holds them from then on. */
    boolean holds(int promise, String words) {
        boolean inPromise = promises.containsKey(promise) && promises.get(promise).hold(words);
        return inPromise || terms.hold(words) || aheadOfTerms.hold(words);
    }

    /** What no test quotes, of the promises and the terms. */
    List<String> left() {
        List<String> left = new ArrayList<>();
        promises.forEach((number, part) -> part.left().forEach(words -> left.add("promise " + number + ": " + words)));
        terms.left().forEach(words -> left.add("terms: " + words));
        return left;
    }
}
