import java.io.IOException;
import java.nio.charset.StandardCharsets;
import java.nio.file.Files;
import java.nio.file.Path;

/**
 * Boundary cases, each under the words of the document that name it.
 * Words must stand in the document, and have a case inside their boundary and one outside it.
 */
final class Edges {
    private static final Path DOCUMENT = Path.of("../shared/DOC.md");

    private final Check check = new Check("BoundaryTest");
    private final String document;
    private final boolean[] named;
    private String words = "";
    private int insides;
    private int outsides;

    Edges() throws IOException {
        document = Files.isReadable(DOCUMENT) ? promisedText(Files.readString(DOCUMENT, StandardCharsets.UTF_8)) : "";
        named = new boolean[document.length()];
        if (document.isEmpty()) {
            System.out.println("BoundaryTest: " + DOCUMENT + " is not here, so its words are not looked up");
        }
    }

    /** From here on, cases are those of these words. */
    void words(String next) {
        closeWords();
        words = next;
        nameAll(plain(next));
    }

    void inside(String what, long got, long due) {
        insides++;
        check.same(told(what), got, due);
    }

    void inside(String what, boolean got, boolean due) {
        insides++;
        check.same(told(what), got, due);
    }

    void inside(String what, String got, String due) {
        insides++;
        check.same(told(what), got, due);
    }

    void outside(String what, long got, long due) {
        outsides++;
        check.same(told(what), got, due);
    }

    void outside(String what, boolean got, boolean due) {
        outsides++;
        check.same(told(what), got, due);
    }

    void outside(String what, String got, String due) {
        outsides++;
        check.same(told(what), got, due);
    }

    void outsideToldThrows(LetterDesk desk, int k, int what) {
        outsides++;
        check.toldThrows(desk, k, what);
    }

    /** A text that is an edition without fault. */
    void reads(String text) {
        inside(text, Desks.edition(new LetterDesk(), 0, text), 0);
    }

    /** A text whose letter, of world 0 on day 0, is this, or this quarrel with its clauses. */
    void makes(String text, String due) {
        inside(text, Desks.make(Desks.with(text), 0), due);
    }

    /** The same, for a letter on the other side of a boundary. */
    void makesOutside(String text, String due) {
        outside(text, Desks.make(Desks.with(text), 0), due);
    }

    /** A text with a fault; the wrong token is the next one behind the sign ^, which is not fed. */
    void faults(int kind, String marked) {
        int place = marked.indexOf('^');
        String text = marked.substring(0, place) + marked.substring(place + 1);
        while (place < text.length() && text.charAt(place) == ' ') {
            place++;
        }
        outside(marked, Desks.edition(new LetterDesk(), 0, text), kind + 16 * place);
    }

    void finish() {
        closeWords();
        checkAllNamed();
        check.finish();
    }

    private String told(String what) {
        return "\"" + words + "\": " + what;
    }

    private void closeWords() {
        if (!words.isEmpty()) {
            check.same(told("has a case inside"), insides > 0, true);
            check.same(told("has a case outside"), outsides > 0, true);
        }
        insides = 0;
        outsides = 0;
    }

    private void nameAll(String plainWords) {
        int from = document.indexOf(plainWords);
        check.same(told("stands in the document"), document.isEmpty() || from >= 0, true);
        while (from >= 0) {
            for (int i = from; i < from + plainWords.length(); i++) {
                named[i] = true;
            }
            from = document.indexOf(plainWords, from + 1);
        }
    }

    /** All that is promised must be under the words of some case. */
    private void checkAllNamed() {
        StringBuilder rest = new StringBuilder();
        for (int i = 0; i < named.length; i++) {
            rest.append(named[i] ? ' ' : document.charAt(i));
        }
        check.same("what no case names of the document", plain(rest.toString().replaceAll("[^A-Za-z0-9]", " ")), "");
    }

    /** How long an object is used, the terms and the promises, without headings and the methods' heads. */
    private static String promisedText(String all) {
        String promised = between(all, "An object is used", "## The public face") + between(all, "## Terms",
                "## Not promised");
        return plain(promised.replaceAll("(?m)^#.*$", " ").replaceAll("==== [0-9][.]", " ")
                .replaceAll("(?m)^```.*$", " ").replaceAll("(?m)^`[^`]*[)][^`]*`: ", " "));
    }

    private static String between(String all, String start, String end) {
        int from = Math.max(0, all.indexOf(start));
        int to = all.indexOf(end, from);
        return all.substring(from, to < 0 ? all.length() : to);
    }

    private static String plain(String text) {
        return text.replaceAll("\\s+", " ").trim();
    }
}
