import java.io.IOException;
import java.nio.file.Files;
import java.nio.file.Path;
import java.util.ArrayList;
import java.util.List;
import java.util.function.IntUnaryOperator;
import java.util.regex.Matcher;
import java.util.regex.Pattern;

/**
 * Checks that stand under sentences of the document, so that a sentence without a test is seen.
 * Section 0 is the terms (with how long an object is used), sections 1 to 40 are the promises.
 */
final class Sentences {
    static final int BAD = -1001;
    static final int FULL = -1002;
    static final int STATE = -1003;
    static final int EMPTY = -1004;
    static final int PLACE = -1005;
    static final int NONE = -1;
    static final int MIN = Integer.MIN_VALUE;
    static final int MAX = Integer.MAX_VALUE;
    static final int[] NO_LANES = {-1, 64, MIN, MAX};
    static final int[] NO_VARIABLES = {-1, 8, MIN, MAX};
    static final int[] NO_BITS = {-1, 8, MIN, MAX};
    static final int[] NO_NUMBERS = {-1, 256, MIN, MAX};
    static final int[] NO_SHELVES = {-1, 4, MIN, MAX};
    static final int[] NO_TIMES = {-1, 31, MIN, MAX};

    private static final int PROMISES = 40;

    private final Checks checks;
    private final List<List<String>> quotes = new ArrayList<>();
    private String current = "";
    private int checked;

    Sentences(Checks checks) {
        this.checks = checks;
        for (int section = 0; section <= PROMISES; section++) {
            quotes.add(new ArrayList<>());
        }
    }

    /** What is checked from here on belongs to these words of the document. */
    void says(int section, String words) {
        endOfSentence();
        quotes.get(section).add(words);
        current = (section == 0 ? "Terms" : "Promise " + section) + ", \"" + words + "\"";
        checked = 0;
    }

    private void endOfSentence() {
        checks.holds(current + " is tested", current.isEmpty() || checked > 0);
    }

    void due(String what, long got, long want) {
        checked++;
        checks.due(current + ": " + what, got, want);
    }

    void holds(String what, boolean so) {
        due(what, so ? 1 : 0, 1);
    }

    /** The act is refused for each of the numbers, and each time counted. */
    void refuses(LaneSlices x, int refusal, IntUnaryOperator act, int... numbers) {
        for (int number : numbers) {
            int before = x.refused(BAD - refusal);
            int others = Make.refusals(x) - before;
            due("with " + number, act.applyAsInt(number), refusal);
            due("counted, with " + number, x.refused(BAD - refusal), before + 1);
            due("nothing else counted, with " + number, Make.refusals(x), before + 1 + others);
        }
    }

    /** The act is refused for none of the numbers. */
    void takes(LaneSlices x, IntUnaryOperator act, int... numbers) {
        for (int number : numbers) {
            int before = Make.refusals(x);
            holds("with " + number, act.applyAsInt(number) > -1000);
            due("nothing refused, with " + number, Make.refusals(x), before);
        }
    }

    void fault(String text, int place) {
        LaneSlices x = new LaneSlices();
        due("text() of " + text, Make.read(x, text), -10 - place);
    }

    void good(String text, int deeds) {
        due("text() of " + text, Make.textOf(text), deeds);
    }

    // ---- the document

    /** Every quote stands in the document, and every sentence of it has a quote. */
    void holdAgainst(Path document) throws IOException {
        endOfSentence();
        String all = Files.readString(document);
        int limit = all.indexOf("An object is used");
        int face = all.indexOf("## The public face");
        int terms = all.indexOf("## Terms");
        int promises = all.indexOf("## Promise 1:");
        boolean isWhole = limit >= 0 && face > limit && terms > face && promises > terms;
        checks.holds("the document has its parts", isWhole);
        if (isWhole) {
            holdSection(0, all.substring(limit, face) + all.substring(terms + "## Terms".length(), promises));
        }
        Matcher promise = Pattern.compile("## Promise (\\d+):[^\n]*\\s+`[^`]*`: ([^#]*)").matcher(all);
        int found = 0;
        while (promise.find()) {
            found++;
            holdSection(Integer.parseInt(promise.group(1)), promise.group(2));
        }
        checks.due("promises", found, PROMISES);
    }

    private void holdSection(int section, String told) {
        String text = told.replaceAll("```\\w*", "").replaceAll("\\s+", " ").trim();
        for (String quote : quotes.get(section)) {
            checks.holds("section " + section + " says: " + quote, text.contains(quote));
        }
        // ".. (" is no end of a sentence.
        for (String sentence : text.split("(?<=[^. ]\\.) |(?<=\\.\\)) ")) {
            // How the interface is laid out is no behaviour; a number alone begins a list.
            if (!sentence.startsWith("Ahead of the calls") && !sentence.matches("\\d+\\.")) {
                checks.holds("section " + section + " is tested where it says: " + sentence,
                    isQuoted(section, sentence));
            }
        }
    }

    private boolean isQuoted(int section, String sentence) {
        for (String quote : quotes.get(section)) {
            if (sentence.contains(quote) || quote.contains(sentence)) {
                return true;
            }
        }
        return false;
    }
}
