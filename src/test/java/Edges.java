import java.util.regex.Matcher;
import java.util.regex.Pattern;

/** Sentences of the document that name a boundary case, each with the test that stands for it. */
final class Edges {
    /** A test of one sentence. */
    interface Edge {
        void look(Due due);
    }

    /** What tells a boundary case in the document: such a place must stand in a sentence that has a test. */
    private static final Pattern MARKS = Pattern.compile("NONE|-2|false if|\\b0 if|at most|at least|\\.\\.|above|below"
            + "|more than|empty|once|too many|within|by 0|of like ones|at first|if it is not|doing nothing|none such"
            + "|can't|already|another what|kept|\\(0\\b|cut|wrapping|fewest|the same");

    private final String doc;
    private final boolean[] isCovered;
    private int edges;
    private int checked;
    private int wrong;

    Edges(String doc) {
        this.doc = doc;
        this.isCovered = new boolean[doc.length()];
    }

    /** A sentence under 'Terms', in the part behind '==== n.' (1: what stands ahead of '==== 2.'). */
    void terms(int part, String sentence, Edge edge) {
        String head = part == 1 ? "## Terms" : "==== " + part + ".";
        String next = part == 4 ? "## Promise 1:" : "==== " + (part + 1) + ".";
        int from = doc.indexOf(head, doc.indexOf("## Terms"));
        stand("Terms " + part, from, doc.indexOf(next, from), sentence, edge);
    }

    void promise(int number, String sentence, Edge edge) {
        int from = doc.indexOf("## Promise " + number + ":");
        int to = doc.indexOf("\n## ", from);
        stand("Promise " + number, from, to, sentence, edge);
    }

    private void stand(String where, int from, int to, String sentence, Edge edge) {
        if (!doc.isEmpty()) {
            cover(where, from, to, sentence);
        }
        Due due = new Due(where + ", '" + sentence + "'");
        edge.look(due);
        edges++;
        checked += due.checked();
        wrong += due.wrong();
        if (due.checked() == 0) {
            fail(where + ", '" + sentence + "': nothing was looked at");
        }
    }

    private void cover(String where, int from, int to, String sentence) {
        String section = from < 0 || to < 0 ? "" : doc.substring(from, to);
        int at = section.indexOf(sentence);
        if (at < 0 || section.indexOf(sentence, at + 1) >= 0) {
            fail(where + " does not say just once: " + sentence);
            return;
        }
        for (int i = 0; i < sentence.length(); i++) {
            isCovered[from + at + i] = true;
        }
    }

    private void fail(String why) {
        wrong++;
        System.out.println(why);
    }

    /** Every place of the document that tells a boundary case has its test. */
    private void lookForGaps() {
        int from = doc.indexOf("## Terms");
        int to = doc.indexOf("## Not promised");
        Matcher mark = MARKS.matcher(doc).region(from, to);
        while (mark.find()) {
            if (!isCovered[mark.start()]) {
                int begin = Math.max(0, mark.start() - 60);
                int end = Math.min(doc.length(), mark.end() + 60);
                fail("no test for: .. " + doc.substring(begin, end).replace('\n', ' ') + " ..");
            }
        }
    }

    void finish() {
        if (doc.isEmpty()) {
            System.out.println("../shared/DOC.md can't be read: the quotes were not looked up");
        } else {
            lookForGaps();
        }
        System.out.println("EdgesTest: " + edges + " sentences, " + checked + " answers, " + wrong + " not as due");
        if (wrong != 0) {
            System.exit(1);
        }
    }
}
