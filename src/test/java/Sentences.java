import java.io.IOException;
import java.nio.file.Files;
import java.nio.file.Path;
import java.util.ArrayList;
import java.util.List;
import java.util.regex.Matcher;
import java.util.regex.Pattern;

/**
 * The sentences of the document that bind the program, by their sections: 0 for the one on 512 calls, T1 to T7 for the
 * terms, R for the refusals, 1 to 53 for the promises. Each is to be claimed by a test of its own.
 */
final class Sentences {
    private static final Path DOCUMENT = Path.of("../shared/DOC.md");
    private static final List<String> unclaimed = new ArrayList<>();

    private Sentences() { }

    static void read() throws IOException {
        String section = "0";
        boolean binds = false;
        for (String line : Files.readAllLines(DOCUMENT)) {
            String text = line.trim();
            if (text.startsWith("## ")) {
                binds = text.equals("## Terms") || text.startsWith("## Promise ");
                section = text.replace("## Promise ", "").replaceAll(":.*", "");
                continue;
            }
            Matcher term = Pattern.compile("======== (\\d) (.*)").matcher(text);
            if (term.matches()) {
                section = "T" + term.group(1);
                text = term.group(2);
            } else if (text.startsWith("Refusals, ")) {
                section = "R";
            }
            boolean calls = text.startsWith("An object is used for at most ");
            if ((binds || calls) && !text.startsWith("```") && !text.startsWith("Ahead of the calls ")) {
                split(calls ? "0" : section, text);
            }
        }
    }

    /** A sentence ends with a full stop that is no part of a range as in 0 .. 3. */
    private static void split(String section, String text) {
        for (String sentence : text.split("(?<=[^. ]\\.)( |$)")) {
            if (!sentence.isEmpty()) {
                unclaimed.add(section + " | " + sentence);
            }
        }
    }

    static void claim(String section, String sentence) {
        Checks.due("the document says: " + section + " | " + sentence, unclaimed.remove(section + " | " + sentence) ? 1 : 0, 1);
    }

    static void allAreClaimed() {
        for (String sentence : unclaimed) {
            System.out.println("no test claims: " + sentence);
        }
        Checks.due("sentences that no test claims", unclaimed.size(), 0);
    }
}
