import java.util.ArrayList;
import java.util.List;
import java.util.TreeSet;

/** The sentences of the document, and those that the tests at the edges have quoted so far. */
final class Sentences {
    /** What stands in the document's description may be tested by any promise. */
    private static final int ANY_PROMISE = 0;

    private record Quote(int promise, String words) {
        boolean isQuotedBy(Quote test) {
            return (promise == ANY_PROMISE || promise == test.promise)
                && (words.contains(test.words) || test.words.contains(words));
        }
    }

    private final List<Quote> quotes = new ArrayList<>();

    void quote(int promise, String words) {
        quotes.add(new Quote(promise, words));
    }

    /** Every quote stands in the document, every sentence that can be tested is quoted, and so is every promise. */
    void compare(Checks checks, String document) {
        String whole = String.join(" ", document.split("\\s+"));
        TreeSet<Integer> promises = new TreeSet<>();
        for (Quote q : quotes) {
            checks.holds("the document says \"" + q.words + "\"", whole.contains(q.words));
            promises.add(q.promise);
        }
        for (int promise = 1; promise <= 35; promise++) {
            checks.holds("promise " + promise + " has a test at its edges", promises.contains(promise));
        }
        for (Quote sentence : sentences(document)) {
            checks.holds("a test of promise " + sentence.promise + " quotes \"" + sentence.words + "\"",
                quotes.stream().anyMatch(sentence::isQuotedBy));
        }
    }

    private static List<Quote> sentences(String document) {
        List<Quote> found = new ArrayList<>();
        int promise = ANY_PROMISE;
        String told = document.substring(document.indexOf("## Description"), document.indexOf("## Not promised"));
        for (String paragraph : told.split("\n\n")) {
            if (paragraph.startsWith("## Promise ")) {
                promise = Integer.parseInt(paragraph.substring(11, paragraph.indexOf(':')));
            } else if (paragraph.startsWith("- ")) {
                for (String item : paragraph.split("\n")) {
                    keepItem(promise, item.substring(2), found);
                }
            } else if (!paragraph.startsWith("## ") && !paragraph.startsWith("`")) {
                for (String sentence : String.join(" ", paragraph.split("\\s+")).split("(?<=\\.) (?=[A-Z])")) {
                    keepSentence(promise, sentence, found);
                }
            }
        }
        return found;
    }

    /** An argument's line says something of its own only where it has a number or a rule. */
    private static void keepItem(int promise, String item, List<Quote> found) {
        if (item.matches(".*[0-9].*")) {
            found.add(new Quote(promise, item));
        }
    }

    /** Leaves out the names of the paragraphs, as "Orders.", and what only leads on to a list. */
    private static void keepSentence(int promise, String sentence, List<Quote> found) {
        boolean name = promise == ANY_PROMISE && sentence.split(" ").length < 4;
        boolean leads = sentence.startsWith("The constructor and the methods follow") || sentence.startsWith("---- ")
            || sentence.endsWith(":");
        if (!name && !leads) {
            found.add(new Quote(promise, sentence));
        }
    }
}
