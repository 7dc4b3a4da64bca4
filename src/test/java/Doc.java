import java.io.IOException;
import java.nio.file.Files;
import java.nio.file.Path;
import java.util.HashMap;
import java.util.Map;

/** The document, by its sections: that each quoted sentence stands there, and that none was left out. */
final class Doc {
    private static final Path PATH = Path.of("../shared/DOC.md");
    private static final Map<String, String> SECTIONS = read();
    private static final Map<String, boolean[]> QUOTED = new HashMap<>();

    private Doc() {
    }

    private static Map<String, String> read() {
        Map<String, String> sections = new HashMap<>();
        try {
            for (String part : Files.readString(PATH).split("(?m)^## ")) {
                int end = part.indexOf('\n');
                String title = part.substring(0, end).replaceAll(":.*", "").trim();
                sections.put(title, plain(title.startsWith("Promise") ? withoutSignature(part) : part.substring(end)));
            }
        } catch (IOException e) {
            System.out.println("the document can't be read: " + e);
            System.exit(1);
        }
        return sections;
    }

    private static String withoutSignature(String part) {
        return part.substring(part.indexOf("`: ") + 3);
    }

    private static String plain(String text) {
        return text.replace("```text", " ").replace("```", " ").replace("`", "").replaceAll("\\s+", " ").trim();
    }

    /** The checks that follow are of this sentence. */
    static void sentence(String section, String words) {
        Check.sentence(section, words);
        quote(section, words);
    }

    static void promise(int number, String words) {
        sentence("Promise " + number, words);
    }

    /** Words that name no boundary case. */
    static void noBoundary(String section, String words) {
        quote(section, words);
    }

    private static void quote(String section, String words) {
        String text = SECTIONS.getOrDefault(section, "");
        boolean[] quoted = QUOTED.computeIfAbsent(section, key -> new boolean[text.length()]);
        int at = text.indexOf(words);
        Check.holds("'" + section + "' says: " + words, at >= 0);
        for (; at >= 0; at = text.indexOf(words, at + 1)) {
            java.util.Arrays.fill(quoted, at, at + words.length(), true);
        }
    }

    /** Whether all words of a section were quoted. */
    static void wholly(String section) {
        String text = SECTIONS.getOrDefault(section, "");
        boolean[] quoted = QUOTED.getOrDefault(section, new boolean[text.length()]);
        StringBuilder left = new StringBuilder();
        for (int i = 0; i < text.length(); i++) {
            boolean isLeft = !quoted[i] && Character.isLetterOrDigit(text.charAt(i));
            left.append(isLeft ? text.charAt(i) : ' ');
        }
        Check.holds("all of '" + section + "' has a test; left: " + left.toString().replaceAll(" +", " "),
            text.length() > 0 && left.toString().isBlank());
    }
}
