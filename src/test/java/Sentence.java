import java.io.IOException;
import java.nio.file.Files;
import java.nio.file.Path;
import java.nio.file.Paths;
import java.util.ArrayList;
import java.util.Arrays;
import java.util.List;

/**
 * Checks that belong to a sentence of the document. A test tells the sentence that it holds the class to, then what
 * is due by it; at the end each sentence must stand in the document, and no word of a section may be left out.
 */
final class Sentence {
    /** What stands behind this number are the paragraphs of the document's "Terms": 101 the first one, and so on. */
    static final int TERMS = 100;

    private static final List<Integer> SECTIONS = new ArrayList<>();
    private static final List<String> QUOTES = new ArrayList<>();
    private static int checks = 0;
    private static int wrong = 0;

    private Sentence() {
    }

    /** What follows is due by these words of a promise, or of the Terms. */
    static void of(int section, String words) {
        endOfSentence();
        SECTIONS.add(section);
        QUOTES.add(words);
    }

    private static void endOfSentence() {
        if (!QUOTES.isEmpty() && checks == 0) {
            complain("has no check");
        }
        checks = 0;
    }

    private static void complain(String what) {
        wrong++;
        int section = SECTIONS.get(SECTIONS.size() - 1);
        String words = QUOTES.get(QUOTES.size() - 1);
        System.out.println(nameOf(section) + ", \"" + words + "\": " + what);
    }

    private static String nameOf(int section) {
        return section > TERMS ? "Terms, paragraph " + (section - TERMS) : "promise " + section;
    }

    static void due(String call, int got, int want) {
        checks++;
        if (got != want) {
            complain(call + " answered " + got + ", due is " + want);
        }
    }

    static void due(String call, boolean got, boolean want) {
        due(call, got ? 1 : 0, want ? 1 : 0);
    }

    /** A call with one number. */
    interface Call {
        int with(int n);
    }

    /** The call answers the same with each of the numbers. */
    static void each(String name, Call call, int want, int... numbers) {
        for (int n : numbers) {
            due(name + " with " + n, call.with(n), want);
        }
    }

    /** All of these answers are alike. */
    static void alike(String name, int want, int... answers) {
        for (int i = 0; i < answers.length; i++) {
            due(name + ", number " + i, answers[i], want);
        }
    }

    /** The call answers what is due with 0, 1, 2 and so on. */
    static void row(String name, Call call, int... want) {
        for (int n = 0; n < want.length; n++) {
            due(name + " with " + n, call.with(n), want[n]);
        }
    }

    /** The text has this fault at this place; fault 0: it has none. */
    static void fault(String text, int fault, int place) {
        GoodbyeQuay x = Told.of(text);
        String shown = text.length() > 120 ? text.substring(0, 120) + ".." : text;
        due("fault(0) of " + shown, x.fault(0), fault);
        due("fault(1) of " + shown, x.fault(1), place);
    }

    static void right(String... texts) {
        for (String text : texts) {
            fault(text, 0, GoodbyeQuay.NONE);
        }
    }

    /** A number between these two texts may be least .. most, and no other one. */
    static void range(String before, int least, int most, String behind) {
        right(before + least + behind, before + most + behind);
        fault(before + (most + 1) + behind, 4, before.length());
        fault(before + 9999 + behind, 4, before.length());
        if (least > 0) {
            fault(before + (least - 1) + behind, 4, before.length());
        }
    }

    /** All that can be seen of an object without a question; some seventy calls. */
    static int[] all(GoodbyeQuay x) {
        int[] seen = new int[100];
        int n = 0;
        for (int i = 0; i <= 16; i++) {
            seen[n++] = x.about(i);
        }
        for (int p = 0; p < 7; p++) {
            seen[n++] = x.queue(p);
            seen[n++] = x.lies(p);
            seen[n++] = x.pair(p, 3);
            seen[n++] = x.pair(p, 5);
        }
        for (int s = 0; s < 5; s++) {
            seen[n++] = x.ship(s, 0);
            seen[n++] = x.ship(s, 2);
        }
        for (int i = 0; i < 4; i++) {
            seen[n++] = x.rail(i / 2, i % 2);
        }
        seen[n++] = x.fault(0);
        seen[n++] = x.fault(1);
        seen[n++] = x.waves();
        return Arrays.copyOf(seen, n);
    }

    /** Nothing was done since all of it was looked at. */
    static void same(String behindWhat, int[] before, GoodbyeQuay x) {
        due("all behind " + behindWhat + " (" + Arrays.toString(before) + ")", Arrays.equals(before, all(x)), true);
    }

    /** Each sentence stands where it is said to, and the sections first .. last are quoted whole. */
    static void finish(int first, int last) throws IOException {
        endOfSentence();
        String document = document();
        for (int section = first; section <= last; section++) {
            quoteWhole(section, sectionOf(document, section));
        }
        System.out.println(wrong == 0 ? QUOTES.size() + " sentences hold" : wrong + " answers are not as due");
        SECTIONS.clear();
        QUOTES.clear();
        if (wrong != 0) {
            System.exit(1);
        }
    }

    private static String document() throws IOException {
        String shared = System.getenv("SHARED");
        Path path = Paths.get(shared == null ? "../shared" : shared, "DOC.md");
        return Files.readString(path).replace("```text", " ").replace("```", " ").replaceAll("\\s+", " ");
    }

    private static String sectionOf(String document, int section) {
        String head = section > TERMS ? "## Terms" : "## Promise " + section + ":";
        int from = document.indexOf(head);
        int till = document.indexOf("## ", from + 3);
        if (from < 0 || till < 0) {
            return "";
        }
        if (section > TERMS) {
            String[] paragraphs = document.substring(from + head.length(), till).split("==== ");
            return section - TERMS > paragraphs.length ? "" : paragraphs[section - TERMS - 1];
        }
        return document.substring(document.indexOf("`: ", from) + 1, till);
    }

    private static void quoteWhole(int section, String text) {
        boolean[] quoted = new boolean[text.length()];
        for (int i = 0; i < QUOTES.size(); i++) {
            if (SECTIONS.get(i) == section && !mark(text, QUOTES.get(i), quoted)) {
                wrong++;
                System.out.println("the document has no \"" + QUOTES.get(i) + "\" in " + nameOf(section));
            }
        }
        StringBuilder left = new StringBuilder();
        for (int i = 0; i < text.length(); i++) {
            left.append(quoted[i] ? '_' : text.charAt(i));
        }
        if (text.isEmpty() || left.toString().matches(".*[A-Za-z].*")) {
            wrong++;
            System.out.println("not quoted in " + nameOf(section) + ": " + left.toString().replaceAll("_+", " .. "));
        }
    }

    private static boolean mark(String text, String quote, boolean[] quoted) {
        boolean found = false;
        for (int at = text.indexOf(quote); at >= 0; at = text.indexOf(quote, at + 1)) {
            Arrays.fill(quoted, at, at + quote.length(), true);
            found = true;
        }
        return found;
    }
}
