import java.nio.file.Files;
import java.nio.file.Path;
import java.util.ArrayList;
import java.util.List;

/**
 * Tells which words of the tests don't stand in the document, and which of the document's words no test tells. By hand,
 * as a document that is told otherwise breaks no promise: see README.md.
 */
public final class Sentences {
    private static final Path DOCUMENT = Path.of("../shared/DOC.md");

    public static void main(String[] args) throws Exception {
        TermsTest.main(args);
        KindsTest.main(args);
        LawTest.main(args);
        StreetTest.main(args);
        HatsTest.main(args);
        WhereTest.main(args);
        CatchingTest.main(args);
        OtherwiseTest.main(args);
        ToldTest.main(args);
        LotTest.main(args);
        HostTest.main(args);
        RefusalsTest.main(args);
        String document = Files.readString(DOCUMENT).replaceAll("\\s+", " ");
        wordsOfNoDocument(document);
        String[] parts = document.split("## ");
        for (String part : parts) {
            if (part.startsWith("Promise ")) {
                int colon = part.indexOf(':');
                untold(part.substring(0, colon), part.substring(part.indexOf("`: ") + 3));
            } else if (part.startsWith("Terms")) {
                untold("Terms", part);
            }
        }
    }

    private static void wordsOfNoDocument(String document) {
        List<String> seen = new ArrayList<>();
        for (int i = 1; i < Due.SENTENCES.size(); i += 2) {
            String words = Due.SENTENCES.get(i);
            if (!document.contains(words) && !seen.contains(words)) {
                System.out.println("not in the document: " + words);
                seen.add(words);
            }
        }
    }

    private static boolean isOf(String told, String place) {
        for (String one : told.split(", | and ")) {
            if (one.equals(place)) {
                return true;
            }
        }
        return false;
    }

    private static void untold(String place, String text) {
        boolean[] isTold = new boolean[text.length()];
        for (int i = 0; i < Due.SENTENCES.size(); i += 2) {
            String words = Due.SENTENCES.get(i + 1);
            int at = isOf(Due.SENTENCES.get(i), place) ? text.indexOf(words) : -1;
            for (int k = 0; at >= 0 && k < words.length(); k++) {
                isTold[at + k] = true;
            }
        }
        StringBuilder rest = new StringBuilder();
        for (int k = 0; k < text.length(); k++) {
            rest.append(isTold[k] ? '\n' : text.charAt(k));
        }
        for (String scrap : rest.toString().split("\n+")) {
            if (scrap.matches(".*[A-Za-z0-9].*")) {
                System.out.println(place + ", told by no test: " + scrap.trim());
            }
        }
    }
}
