import java.io.IOException;
import java.nio.file.Files;
import java.nio.file.Path;
import java.util.Map;
import java.util.TreeMap;
import java.util.regex.Matcher;
import java.util.regex.Pattern;

/**
 * What is due by which words of the document. Every word of the Terms (number 0) and of each promise
 * must have been quoted by a test in the end, so that no sentence stays without one.
 */
final class Due {
    private static final Path DOCUMENT = Path.of("..", "shared", "DOC.md");

    private final Map<Integer, String> texts = new TreeMap<>();
    private final Map<Integer, boolean[]> quoted = new TreeMap<>();
    private int promise = 0;
    private String words = "";
    private int sinceQuote = 1;
    private int looked = 0;
    private int wrong = 0;

    Due() throws IOException {
        if (!Files.exists(DOCUMENT)) {
            System.out.println(DOCUMENT + " is not there: the answers are looked at without its words");
            return;
        }
        String all = Files.readString(DOCUMENT);
        int terms = all.indexOf("## Terms");
        put(0, all.substring(terms + 8, all.indexOf("The constants:", terms)).replace("```text", "").replace("```", ""));
        Matcher heading = Pattern.compile("## Promise (\\d+): [^\\n]*\\n\\s*`[^`]*`:([^\\n]*)").matcher(all);
        while (heading.find()) put(Integer.parseInt(heading.group(1)), heading.group(2));
    }

    private void put(int number, String text) {
        String plain = text.replace("`", "").replaceAll("\\s+", " ").trim();
        texts.put(number, plain);
        quoted.put(number, new boolean[plain.length()]);
    }

    void terms(String sentence) {
        says(0, sentence);
    }

    /** What follows is looked at because of these words. */
    void says(int number, String sentence) {
        if (sinceQuote == 0) fail("nothing was looked at");
        promise = number;
        words = sentence;
        sinceQuote = 0;
        if (texts.isEmpty()) return;
        int at = texts.getOrDefault(number, "").indexOf(sentence);
        if (at < 0) fail("the document does not say that");
        else for (int i = at; i < at + sentence.length(); i++) quoted.get(number)[i] = true;
    }

    void is(String what, int got, int due) {
        looked++;
        sinceQuote++;
        if (got != due) fail(what + " answered " + got + ", due is " + due);
    }

    /** Answered, and not REFUSED: an answer of -1 alone would not tell. */
    void taken(String what, SmokeRoom room, int got, int due) {
        is(what, got, due);
        is(what + ", status", room.status(), 0);
    }

    void refused(String what, SmokeRoom room, int got, int by) {
        is(what, got, by);
        is(what + ", status", room.status(), by);
    }

    private void fail(String what) {
        wrong++;
        System.out.println((promise == 0 ? "Terms" : "promise " + promise) + ", \"" + words + "\": " + what);
    }

    private static String unquoted(String text, boolean[] marks) {
        StringBuilder rest = new StringBuilder();
        for (int i = 0; i < marks.length; i++) rest.append(marks[i] ? ' ' : text.charAt(i));
        return rest.toString().replaceAll("\\s+", " ").trim();
    }

    private void lookForWords() {
        words = "";
        for (int number = 0; number <= 48; number++) {
            promise = number;
            if (!texts.containsKey(number)) fail("not found in " + DOCUMENT);
            String rest = texts.containsKey(number) ? unquoted(texts.get(number), quoted.get(number)) : "";
            if (rest.matches(".*[A-Za-z0-9].*")) fail("no test for: " + rest);
        }
    }

    /** How many things were wrong. */
    int sum() {
        if (sinceQuote == 0) fail("nothing was looked at");
        if (!texts.isEmpty()) lookForWords();
        System.out.println(looked + " answers at the edges, " + wrong + " not as due");
        return wrong;
    }
}
