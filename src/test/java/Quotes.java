import java.io.IOException;
import java.io.UncheckedIOException;
import java.nio.file.Files;
import java.nio.file.Path;
import java.util.LinkedHashMap;
import java.util.Map;

/**
 * The sentences of the document that tests say they hold: each must stand in the document as it is quoted, and
 * what no test quotes is told, so that no sentence is left out.
 */
final class Quotes {
    private static final Map<String, String> SECTIONS = new LinkedHashMap<>();
    private static final Map<String, boolean[]> HELD = new LinkedHashMap<>();
    private static int quoted = 0;
    private static int wrong = 0;

    private Quotes() { }

    /** Cuts what it is ("what"), the terms (I to IV) and the promises by their numbers; all blanks count as one. */
    static void open(String file) {
        String all;
        try {
            all = Files.readString(Path.of(file));
        } catch (IOException e) {
            throw new UncheckedIOException(e);
        }
        String[] parts = all.split("\n## ");
        for (String part : parts) {
            if (part.startsWith("What it is\n")) {
                put("what", part.substring(part.indexOf("\nAn object is used")));
            } else if (part.startsWith("Terms\n")) {
                String[] terms = part.substring("Terms\n".length()).split("==== I[IV]+\\.");
                String[] names = {"I", "II", "III", "IV"};
                for (int i = 0; i < names.length; i++) {
                    put(names[i], terms[i]);
                }
            } else if (part.startsWith("Promise ")) {
                put(part.substring("Promise ".length(), part.indexOf(':')), part.substring(part.indexOf("`: ") + 3));
            }
        }
    }

    private static void put(String section, String text) {
        String plain = text.replace("```text", " ").replace("```", " ").replaceAll("\\s+", " ").trim();
        SECTIONS.put(section, plain);
        HELD.put(section, new boolean[plain.length()]);
    }

    static void quote(String section, String sentence) {
        quoted++;
        String text = SECTIONS.get(section);
        int at = text == null ? -1 : text.indexOf(sentence);
        if (at < 0) {
            wrong++;
            System.out.println("the document has not in " + section + ": " + sentence);
            return;
        }
        for (int i = at; i < at + sentence.length(); i++) {
            HELD.get(section)[i] = true;
        }
    }

    /** Tells what no test has quoted. */
    static int finish() {
        for (String section : SECTIONS.keySet()) {
            String text = SECTIONS.get(section);
            StringBuilder open = new StringBuilder();
            for (int i = 0; i <= text.length(); i++) {
                boolean isOpen = i < text.length() && !HELD.get(section)[i];
                if (isOpen) {
                    open.append(text.charAt(i));
                } else {
                    tellOpen(section, open);
                }
            }
        }
        System.out.println(quoted + " sentences quoted, " + wrong + " not so or left out");
        return wrong;
    }

    private static void tellOpen(String section, StringBuilder open) {
        if (open.chars().anyMatch(Character::isLetterOrDigit)) {
            wrong++;
            System.out.println("no test holds in " + section + ": " + open.toString().trim());
        }
        open.setLength(0);
    }
}
