import java.io.IOException;
import java.nio.file.Files;
import java.nio.file.Path;
import java.util.function.Supplier;
import java.util.function.ToIntFunction;

/**
 * Tests by the sentences of ../shared/DOC.md: each is quoted as it stands there, and then has answers of its own.
 * A quotation that the document hasn't, one without answers, a sentence that nobody quotes: each is a fault.
 */
final class Sentences {
    private static final Path DOCUMENT = Path.of("../shared/DOC.md");
    private static final int TERMS = 0, PROMISES = 36;
    /** Words 0 noun, 1 plain, 2 colour, 3 half, 4 name, 5 colour; one of PEOPLE of each kind, 18 halves each. */
    static final String REALM =
        "noun 5;plain 7;colour 9;half 3;name 8;colour 2;citizen 1;lover 1;critic 1;poet 1";
    /** What stands for a place that has been quoted: no sign of the document. */
    private static final char QUOTED = '\u0001';

    private final Checks checks = new Checks();
    private final String[] parts = new String[PROMISES + 1];
    private String sentence = "(ahead of the first sentence)";
    private int sentences;
    private int answers = 1;

    Sentences() throws IOException {
        String document = Files.readString(DOCUMENT);
        parts[TERMS] = plain(between(document, "An object is used", "## The public face")
            + between(document, "## Terms", "## Promise 1:"));
        for (int n = 1; n <= PROMISES; n++) {
            String next = n < PROMISES ? "## Promise " + (n + 1) + ":" : "## Not promised";
            String promise = between(document, "## Promise " + n + ":", next);
            parts[n] = plain(promise.substring(promise.indexOf("`:") + 2));
        }
    }

    /** From the words on, to ahead of the others. */
    private static String between(String document, String from, String to) {
        int start = document.indexOf(from);
        return document.substring(start, document.indexOf(to, start));
    }

    private static String plain(String part) {
        return part.replace("## Terms", " ").replaceAll("======== \\d", " ").replace("```text", " ").replace("```", " ")
            .replaceAll("(?m)^Ahead of the calls .*$", " ").replaceAll("\\s+", " ");
    }

    /** Begins the tests of a sentence of the Terms. */
    void terms(String words) {
        begin(TERMS, "Terms", words);
    }

    /** Begins the tests of a sentence of a promise. */
    void promise(int n, String words) {
        begin(n, "Promise " + n, words);
    }

    private void begin(int part, String name, String words) {
        checks.due(sentence + ": has answers", answers > 0 ? 1 : 0, 1);
        sentence = name + " '" + words + "'";
        sentences++;
        answers = 0;
        int place = parts[part].indexOf(words);
        checks.due(sentence + ": stands in the document, and is quoted once", place >= 0 ? 1 : 0, 1);
        if (place >= 0) {
            String quoted = String.valueOf(QUOTED).repeat(words.length());
            parts[part] = parts[part].substring(0, place) + quoted + parts[part].substring(place + words.length());
        }
    }

    void due(String call, long got, long want) {
        answers++;
        checks.due(sentence + ": " + call, got, want);
    }

    /** The call answers as due, and all that can be seen behind it is as if it had not been made. */
    void unchanged(String call, int want, Supplier<AdjectiveCoupons> maker, ToIntFunction<AdjectiveCoupons> asked) {
        AdjectiveCoupons x = maker.get();
        due(call, asked.applyAsInt(x), want);
        like(call, x, maker.get());
    }

    /** All that can be seen of the one is as it is with the other. (Asking for it changes both.) */
    void like(String call, AdjectiveCoupons x, AdjectiveCoupons other) {
        String got = Seen.all(x);
        String want = Seen.all(other);
        if (!got.equals(want)) {
            System.out.println("seen:    " + got + "\nis due:  " + want);
        }
        due(call + ": all that is seen behind it", got.equals(want) ? 1 : 0, 1);
    }

    /** The text's fault is where the bar stands; it cannot be done, and nothing changes. */
    void fault(String barred) {
        faultBehind("", barred);
    }

    void faultBehind(String told, String barred) {
        int place = barred.indexOf('|');
        String text = barred.substring(0, place) + barred.substring(place + 1);
        Supplier<AdjectiveCoupons> maker = () -> {
            AdjectiveCoupons x = new AdjectiveCoupons();
            tell(x, told);
            Checks.write(x, text);
            return x;
        };
        unchanged("fault() of '" + barred + "'", place, maker, AdjectiveCoupons::fault);
        unchanged("realm() of '" + barred + "'", AdjectiveCoupons.NOT, maker, AdjectiveCoupons::realm);
    }

    /** The text has no fault, and so many clauses; the object to which it was told. */
    AdjectiveCoupons sound(String text, int clauses) {
        AdjectiveCoupons x = new AdjectiveCoupons();
        Checks.write(x, text);
        due("fault() of '" + text + "'", x.fault(), AdjectiveCoupons.NONE);
        due("realm() of '" + text + "'", x.realm(), clauses);
        return x;
    }

    /** A new object to which the realm was told, with this line: a digit a word, _ a hole. */
    static AdjectiveCoupons laid(String realm, String row) {
        AdjectiveCoupons x = told(realm);
        Checks.lay(x, row);
        return x;
    }

    /** An object on which there is something of all: 5 words, 4 people, week 1, 8 calls to be undone, the rest too. */
    static AdjectiveCoupons worn() {
        AdjectiveCoupons x = laid("noun 5;plain 7;colour 9;half 3;name 8;citizen 3;lover 8;critic 1;poet 9"
            + ";change 1 0 2;twice", "10");
        x.say(1);
        x.trade(2, 0, 18, 4);
        x.say(2);
        x.owe(0, 1, 5);
        x.keep(0);
        x.week();
        x.owe(3, 2, 7);
        x.owe(0, 1, 1);
        x.trade(1, 3, 1, 1);
        Checks.draft(x, "20", "4");
        Checks.lay(x, "1204");
        Checks.write(x, "mil");
        return x;
    }

    /** Just below the least, just above the most, and as far away as can be. */
    static int[] beside(int least, int most) {
        return new int[] {least - 1, most + 1, Integer.MIN_VALUE, Integer.MAX_VALUE};
    }

    /** A new object to which the texts were told. */
    static AdjectiveCoupons told(String... texts) {
        AdjectiveCoupons x = new AdjectiveCoupons();
        for (String text : texts) {
            tell(x, text);
        }
        return x;
    }

    private static void tell(AdjectiveCoupons x, String text) {
        Checks.write(x, text);
        if (!text.isEmpty() && x.realm() < 0) {
            throw new IllegalArgumentException("a fault in '" + text + "'");
        }
    }

    void finish() {
        checks.due(sentence + ": has answers", answers > 0 ? 1 : 0, 1);
        for (int n = 0; n < parts.length; n++) {
            String rest = parts[n].replace(QUOTED, ' ').replaceAll("[ ,;:.]+", " ").trim();
            checks.due((n == TERMS ? "Terms" : "Promise " + n) + " not quoted: " + rest, rest.length(), 0);
        }
        System.out.println(sentences + " sentences");
        checks.finish();
    }
}
