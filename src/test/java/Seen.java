/** All that can be seen of an object, as a text. What cannot be asked without a change is asked last. */
final class Seen {
    private Seen() {
    }

    static String all(AdjectiveCoupons x) {
        StringBuilder s = new StringBuilder();
        counts(x, s);
        words(x, s);
        people(x, s);
        line(x, s);
        drafts(x, s);
        while (x.count(8) > 0) {
            s.append(" undo ").append(x.undo());
            passing(x, s);
        }
        s.append(" undo ").append(x.undo());
        for (int k = 0; k < 2; k++) {
            s.append(" back ").append(x.back(k));
            passing(x, s);
        }
        text(x, s);
        return s.toString();
    }

    private static void counts(AdjectiveCoupons x, StringBuilder s) {
        s.append("counts");
        for (int what = 0; what < 12; what++) {
            s.append(' ').append(x.count(what));
        }
    }

    private static void words(AdjectiveCoupons x, StringBuilder s) {
        for (int word = 0; word < x.count(0); word++) {
            s.append(" word");
            for (int what = 0; what < 4; what++) {
                s.append(' ').append(x.word(word, what));
            }
        }
    }

    private static void people(AdjectiveCoupons x, StringBuilder s) {
        int people = x.count(1);
        for (int one = 0; one < people; one++) {
            s.append(" one");
            for (int what = 0; what < 7; what++) {
                s.append(' ').append(x.one(one, what));
            }
            s.append(" owes");
            for (int other = 0; other < people; other++) {
                s.append(' ').append(x.owes(one, other));
            }
        }
    }

    private static void line(AdjectiveCoupons x, StringBuilder s) {
        s.append(" line");
        for (int i = 0; i <= x.count(6); i++) {
            s.append(' ').append(x.line(i));
        }
    }

    private static void drafts(AdjectiveCoupons x, StringBuilder s) {
        for (int draft = 0; draft < x.count(7); draft++) {
            s.append(" draft");
            for (int what = 0; what < 3; what++) {
                s.append(' ').append(x.drafted(draft, 0, what));
            }
        }
    }

    /** Some of what an undo or a back brings again. */
    private static void passing(AdjectiveCoupons x, StringBuilder s) {
        s.append(' ').append(x.count(5)).append(' ').append(x.count(9)).append(' ').append(x.owes(0, 1));
        s.append(' ').append(x.one(0, 2)).append(' ').append(x.one(0, 5)).append(' ').append(x.word(0, 3));
    }

    private static void text(AdjectiveCoupons x, StringBuilder s) {
        s.append(" text ").append(x.fault()).append(' ').append(x.realm());
        for (int what = 0; what < 5; what++) {
            s.append(' ').append(x.count(what));
        }
    }
}
