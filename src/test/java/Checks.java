/** Counts the answers that are not as due; tells texts letter by letter. */
final class Checks {
    private int right;
    private int wrong;

    void due(String call, long got, long want) {
        if (got == want) {
            right++;
        } else {
            wrong++;
            System.out.println(call + " answered " + got + ", due is " + want);
        }
    }

    /** Prints what came out; ends with exit code 1 if an answer was wrong. */
    void finish() {
        System.out.println(right + " answers as due, " + wrong + " not");
        if (wrong != 0 || right == 0) {
            System.exit(1);
        }
    }

    static void write(AdjectiveCoupons x, String text) {
        for (int i = 0; i < text.length(); i++) {
            x.write(text.charAt(i));
        }
    }

    /** The line anew: a digit a word, _ a hole. */
    static void lay(AdjectiveCoupons x, String row) {
        x.wipe();
        for (int i = 0; i < row.length(); i++) {
            x.put(row.charAt(i) == '_' ? AdjectiveCoupons.NONE : row.charAt(i) - '0');
        }
    }

    static void draft(AdjectiveCoupons x, String... rows) {
        for (String row : rows) {
            lay(x, row);
            x.draft();
        }
    }
}
