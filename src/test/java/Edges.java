import java.nio.file.Files;
import java.nio.file.Path;
import java.util.ArrayList;
import java.util.List;
import java.util.function.IntToLongFunction;

/**
 * Answers that are due by one sentence of the document. A sentence is quoted ahead of its
 * answers, so that what is printed names its promise; a quote that the document does not have,
 * and a sentence that no test quotes, are faults of the test.
 */
final class Edges {
    /** The number under which the "Terms" are quoted. */
    static final int TERMS = 0;
    static final int PROMISES = 74;
    static final int LOW = Integer.MIN_VALUE;
    static final int HIGH = Integer.MAX_VALUE;

    private static final Due DUE = new Due("EdgeTest");
    private static final List<String> SECTIONS = sections();
    private static final List<List<String>> QUOTES = new ArrayList<>();
    private static String now = "";

    private Edges() { }

    private static List<String> sections() {
        try {
            String text = Files.readString(Path.of("../shared/DOC.md"));
            List<String> all = new ArrayList<>();
            all.add(between(text, "An object is used", "; what later calls") + ". " + between(text, "I. BRIDGE", "## Promise 1:"));
            for (int promise = 1; promise <= PROMISES; promise++) {
                String end = promise < PROMISES ? "## Promise " + (promise + 1) + ":" : "## Not promised";
                String whole = between(text, "## Promise " + promise + ":", end);
                all.add(whole.substring(whole.indexOf("`: ") + 3));
            }
            return all;
        } catch (java.io.IOException e) {
            throw new IllegalStateException(e);
        }
    }

    private static String between(String text, String from, String to) {
        return text.substring(text.indexOf(from), text.indexOf(to)).replace("```text", "").replace("```", "")
                .replaceAll("\\s+", " ").trim();
    }

    /** The sentence by which the answers that follow are due. */
    static void of(int promise, String sentence) {
        while (QUOTES.size() <= PROMISES) {
            QUOTES.add(new ArrayList<>());
        }
        QUOTES.get(promise).add(sentence);
        now = (promise == TERMS ? "Terms" : "Promise " + promise) + ", \"" + sentence + "\": ";
        DUE.is(now + "the document says so", SECTIONS.get(promise).contains(sentence) ? 1 : 0, 1);
    }

    static void is(String call, long got, long want) {
        DUE.is(now + call, got, want);
    }

    /** Several calls with one answer. */
    static void all(String calls, long want, long... got) {
        for (int i = 0; i < got.length; i++) {
            is(calls + " [" + i + "]", got[i], want);
        }
    }

    /** The answers for the arguments 0, 1, and so on. */
    static void row(String name, IntToLongFunction call, long... want) {
        for (int i = 0; i < want.length; i++) {
            is(name + "(" + i + ")", call.applyAsLong(i), want[i]);
        }
    }

    /** One answer for arguments that are none of 0 .. many less 1: too small, too large, wrapping around. */
    static void none(String name, IntToLongFunction call, long want, int many) {
        int[] strange = {-1, many, many + 1, -2, -many, 31, 32, 64, 65, -32, 256, 65536, LOW, LOW + 1, HIGH, HIGH - 1};
        for (int one : strange) {
            if (one < 0 || one >= many) {
                is(name + "(" + one + ")", call.applyAsLong(one), want);
            }
        }
    }

    static QuarrelBridge on(String... lines) {
        return Texts.told(String.join("", lines));
    }

    static String bridge(int days, int one, int other, int cools, int odds) {
        return "bridge days " + days + " feels " + one + " feels " + other + " cools " + cools + " odds " + odds + ";";
    }

    static String deed(int side, int costs, int one, int other) {
        return "deed by " + side + " costs " + costs + gift(one) + gift(other) + ";";
    }

    private static String gift(int n) {
        return n < 0 ? " takes " + -n : " gives " + n;
    }

    static String cart(int side, int wide, int from, int due, int pays) {
        return "cart on " + side + " wide " + wide + " from " + from + " due " + due + " pays " + pays + ";";
    }

    /** Lays a row in a SLOT. */
    static void tell(QuarrelBridge x, int slot, int width, long... row) {
        is("row " + slot, x.row(slot, width, row.length), 0);
        for (int i = 0; i < row.length; i++) {
            is("write " + i, x.write(slot, i, row[i]), 0);
        }
    }

    /** Every sentence of every promise is quoted, whole or in part. */
    static void close() {
        for (int promise = 0; promise <= PROMISES; promise++) {
            for (String clause : plain(SECTIONS.get(promise)).split("(?<![ .])[.;:](?=\\s|$)")) {
                now = "Promise " + promise + " (0: Terms): ";
                if (clause.trim().length() > 4) {
                    is("a test quotes '" + clause.trim() + "'", isQuoted(promise, clause.trim()) ? 1 : 0, 1);
                }
            }
        }
        DUE.close();
    }

    private static boolean isQuoted(int promise, String clause) {
        for (String quote : QUOTES.get(promise)) {
            if (plain(quote).contains(clause) || clause.contains(plain(quote))) {
                return true;
            }
        }
        return false;
    }

    /** The sign that is told as itself ends no sentence. */
    private static String plain(String text) {
        return text.replace("the sign ; .", "the sign.");
    }
}
