/** Orders of the line, what to leave out of it, what may stand in its holes: of the Terms' third part, promises 22 to 25. */
final class OrdersSentences {
    private static final int NONE = -1, OUTSIDE = -3, NOT = -4;
    private static final String REALM = Sentences.REALM;
    private static final String TEN_NAMES =
        "name1;name1;name1;name1;name1;name1;name1;name1;name1;name1";

    private final Sentences s;

    OrdersSentences(Sentences s) {
        this.s = s;
    }

    void tell() {
        nothingChanges();
        thisWeek();
        ofACitizen();
        orders();
        cheapestOrder();
        firstOrder();
        loopholes();
        omissions();
        omittedTogether();
        omittedPlaces();
        holesAtMost();
        fillings();
        firstFilling();
        cheapest();
        cheapestRefused();
        loophole();
        leftOut();
        holes();
        holesRefused();
    }

    private static AdjectiveCoupons withHoles() {
        return Sentences.laid(REALM + ";names;swell", "1_2_0");
    }

    private void nothingChanges() {
        s.terms("FORETOLD (nothing changes;");
        s.unchanged("cheapest(-1)", 4, Sentences::worn, y -> y.cheapest(NONE));
        s.unchanged("cheapest(3)", 4, Sentences::worn, y -> y.cheapest(3));
        s.unchanged("loophole()", 0, Sentences::worn, AdjectiveCoupons::loophole);
        s.unchanged("leftOut(1, 1)", 3, Sentences::worn, y -> y.leftOut(1, 1));
        s.unchanged("leftOut(2, 0), holes", 1, OrdersSentences::withHoles, y -> y.leftOut(2, 0));
        s.unchanged("holes(4, -1), no holes", 1, Sentences::worn, y -> y.holes(4, NONE));
        s.unchanged("holes(5, 0), holes", 0, OrdersSentences::withHoles, y -> y.holes(5, 0));
        s.unchanged("drafted(0, 2, 1)", 1, Sentences::worn, y -> y.drafted(0, 2, 1));
        s.unchanged("page(99, 1)", 3, Sentences::worn, y -> y.page(99, 1));
        s.unchanged("plan(1, 1)", 3, Sentences::worn, y -> y.plan(1, 1));
        s.unchanged("likeness(0), holes", 498, OrdersSentences::withHoles, y -> y.likeness(0));
        s.unchanged("author()", 0, OrdersSentences::withHoles, AdjectiveCoupons::author);
        s.unchanged("left(0)", 5, Sentences::worn, y -> y.left(0));
        s.unchanged("net(0)", 9993, Sentences::worn, y -> y.net(0));
        s.unchanged("payments()", 2, Sentences::worn, AdjectiveCoupons::payments);
        s.unchanged("count(9)", 88, Sentences::worn, y -> y.count(9));
    }

    private void thisWeek() {
        s.terms("COSTS in this WEEK,");
        AdjectiveCoupons x = Sentences.told("noun 5;plain 7;name 1;change 1 3 1;change 0 2 2;names");
        int[] cheapest = {0, 0, 1};
        int[] loophole = {2, 1, 1};
        int[] leftOut = {1, 0, 1};
        int[] pages = {2, 3, 2};
        Checks.draft(x, "10", "2");
        for (int week = 0; week < 3; week++) {
            Checks.lay(x, "10");
            s.due("leftOut(1, 0) in week " + week, x.leftOut(1, 0), leftOut[week]);
            Checks.lay(x, "_0");
            s.due("holes(2, -1) in week " + week, x.holes(2, NONE), week == 0 ? 1 : 0);
            s.due("holes(1, -1) in week " + week, x.holes(1, NONE), week == 1 ? 1 : 0);
            s.due("page(1, 1) in week " + week, x.page(1, 1), pages[week]);
            Checks.lay(x, "102");
            s.due("cheapest(-1) in week " + week, x.cheapest(NONE), cheapest[week]);
            s.due("loophole() in week " + week, x.loophole(), loophole[week]);
            x.week();
        }
    }

    private void ofACitizen() {
        s.terms("of a CITIZEN, where nobody is told).");
        for (String people : new String[] {"", ";poet 1", ";critic 1", ";lover 1", ";poet 1;critic 1;poet 1;critic 1"}) {
            AdjectiveCoupons x = Sentences.laid("noun 5;colour 7;colour 6" + people, "120");
            s.due("cheapest(-1)" + people, x.cheapest(NONE), 4);
            s.due("loophole()" + people, x.loophole(), 0);
            s.due("leftOut(3, 0)" + people, x.leftOut(3, 0), 1);
            s.due("leftOut(4, 0)" + people, x.leftOut(4, 0), 0);
            x.draft();
            s.due("page(3, 1)" + people, x.page(3, 1), 0);
            s.due("page(4, 1)" + people, x.page(4, 1), 1);
            Checks.lay(x, "__0");
            s.due("holes(4, -1)" + people, x.holes(4, NONE), 4);
            s.due("holes(1, -1)" + people, x.holes(1, NONE), 0);
        }
    }

    private void order(AdjectiveCoupons x, String row, int price, int loophole, String best) {
        Checks.lay(x, row);
        s.due("cheapest(-1) of '" + row + "'", x.cheapest(NONE), price);
        s.due("loophole() of '" + row + "'", x.loophole(), loophole);
        for (int i = 0; i < best.length(); i++) {
            s.due("cheapest(" + i + ") of '" + row + "'", x.cheapest(i), best.charAt(i) - '0');
        }
        int behind = price < 0 ? price : NONE;
        s.due("cheapest(" + best.length() + ") of '" + row + "'", x.cheapest(best.length()), behind);
    }

    private void orders() {
        s.terms("ORDERS of THE LINE (without HOLES, 6 WORDS at most):");
        AdjectiveCoupons x = Sentences.told(REALM);
        order(x, "012345", 7, 0, "012354");
        order(x, "444444", 0, 0, "444444");
        order(x, "0123454", NOT, NOT, "");
        order(x, "01234544", NOT, NOT, "");
        order(x, "_", NOT, NOT, "");
        order(x, "0_", NOT, NOT, "");
        order(x, "_12340", NOT, NOT, "");
        order(x, "12340_", NOT, NOT, "");
        order(x, "0", 0, 0, "0");
    }

    private void cheapestOrder() {
        s.terms("CHEAPEST: the least that it COSTS in an order that is GOOD,");
        AdjectiveCoupons x = Sentences.told(REALM + ";names");
        order(x, "104", 0, 2, "014");
        order(x, "1424", 0, 2, "1424");
        order(x, "2144", 0, 2, "1424");
        order(x, "110", 4, 0, "110");
        order(x, "3142", 3, 1, "1324");
        AdjectiveCoupons y = Sentences.told(REALM + ";names;swell");
        order(y, "125304", 5, 4, "102354");
        AdjectiveCoupons z = Sentences.told(REALM + ";twice;swell");
        order(z, "110", 2, 0, "110");
        order(z, "12304", 5, 1, "10234");
        order(z, "511040", 4, 1, "010154");
    }

    private void firstOrder() {
        s.terms("the first such row (by WORDS);");
        AdjectiveCoupons x = Sentences.told(REALM);
        order(x, "400", 0, 0, "040");
        order(x, "4310", 3, 0, "0134");
        order(x, "543210", 7, 0, "012354");
        order(x, "44400", 0, 0, "04044");
        order(x, "100400", NONE, NONE, "");
        order(x, "555550", 10, 0, "555550");
        order(x, "11110", 8, 0, "11110");
        s.terms("none is GOOD.");
        order(x, "", NONE, NONE, "");
        order(x, "1", NONE, NONE, "");
        order(x, "123512", NONE, NONE, "");
        order(x, "00", NONE, NONE, "");
        order(x, "000400", NONE, NONE, "");
    }

    private void loopholes() {
        s.terms("LOOPHOLE: by how much the dearest GOOD one costs more.");
        AdjectiveCoupons x = Sentences.told(REALM + ";names");
        Checks.lay(x, "014");
        s.due("loophole(), laid cheapest", x.loophole(), 2);
        Checks.lay(x, "140");
        s.due("loophole(), laid dearest", x.loophole(), 2);
        Checks.lay(x, "34");
        s.due("loophole(), one order", x.loophole(), 0);
        Checks.lay(x, "340");
        s.due("loophole(), of a half", x.loophole(), 1);
        x = Sentences.told(REALM + ";names;swell");
        Checks.lay(x, "125304");
        s.due("loophole(), 9 less 5", x.loophole(), 4);
    }

    private void omission(AdjectiveCoupons x, String row, int c, int words, int places) {
        Checks.lay(x, row);
        s.due("leftOut(" + c + ", 0) of '" + row + "'", x.leftOut(c, 0), words);
        s.due("leftOut(" + c + ", 1) of '" + row + "'", x.leftOut(c, 1), places);
    }

    private void omissions() {
        s.terms("LEFT OUT: the fewest WORDS of THE LINE to be left out");
        AdjectiveCoupons x = Sentences.told(REALM);
        omission(x, "", 0, 0, 0);
        omission(x, "0", 0, 0, 0);
        omission(x, "1", 0, 1, 1);
        omission(x, "1230", 0, 3, 7);
        omission(x, "1230", 2, 2, 3);
        omission(x, "11111111", 0, 8, 255);
        omission(x, "33333333", 3, 5, 31);
        omission(x, "01", 1, 1, 2);
    }

    private void omittedTogether() {
        s.terms("(others, and HOLES, move together),");
        AdjectiveCoupons x = Sentences.told(REALM + ";names;twice");
        omission(x, "104", 1, 1, 1);
        omission(x, "104010", 0, 1, 2);
        omission(x, "1_4", 0, 1, 1);
        omission(x, "101_4", 0, 2, 5);
        omission(x, "1_41", 0, 2, 9);
        AdjectiveCoupons y = Sentences.told(REALM + ";swell");
        omission(y, "11011", 8, 0, 0);
        omission(y, "11_11", 7, 1, 1);
        omission(y, "11101", 8, 1, 1);
        omission(y, "3_1133", 6, 1, 4);
        omission(y, "1101", 6, 0, 0);
        s.terms("so that it COSTS c at most: how many;");
        AdjectiveCoupons z = Sentences.told(REALM);
        omission(z, "1230", 5, 0, 0);
        omission(z, "1230", 4, 1, 1);
        omission(z, "1230", 3, 1, 1);
        omission(z, "11111111", 16, 0, 0);
        omission(z, "11111111", 15, 1, 1);
        omission(z, "11111111", 99, 0, 0);
        omission(z, "11111111", 1, 8, 255);
        omission(z, "11111111", 2, 7, 127);
        AdjectiveCoupons w = Sentences.told("noun 1;change 0 2 1");
        omission(w, "000", 2, 0, 0);
        w.week();
        omission(w, "000", 2, 2, 3);
    }

    private void omittedPlaces() {
        s.terms("their places, by bits, of several the least.");
        AdjectiveCoupons x = Sentences.told(REALM);
        omission(x, "31", 2, 1, 1);
        omission(x, "13", 2, 1, 1);
        omission(x, "31", 1, 1, 2);
        omission(x, "00000001", 0, 1, 128);
        omission(x, "0101", 2, 1, 2);
        omission(x, "0101", 0, 2, 10);
        omission(x, "3311", 3, 2, 5);
        omission(x, "1______1", 0, 2, 129);
        omission(x, "_1_1", 2, 1, 2);
    }

    private void filling(AdjectiveCoupons x, String row, int c, int ways, String first) {
        Checks.lay(x, row);
        s.due("holes(" + c + ", -1) of '" + row + "'", x.holes(c, NONE), ways);
        for (int i = 0; i < first.length(); i++) {
            s.due("holes(" + c + ", " + i + ") of '" + row + "'", x.holes(c, i), first.charAt(i) - '0');
        }
        s.due("holes(" + c + ", " + first.length() + ") of '" + row + "'", x.holes(c, first.length()), NONE);
    }

    private void holesAtMost() {
        s.terms("HOLES of THE LINE, 3 at most:");
        AdjectiveCoupons x = Sentences.told(TEN_NAMES);
        filling(x, "___", 0, 1000, "000");
        filling(x, "_0_00_00", 0, 1000, "000");
        filling(x, "0000000_", 0, 10, "0");
        filling(x, "00000000", 0, 1, "");
        for (String row : new String[] {"____", "________", "_0_0_0_0"}) {
            Checks.lay(x, row);
            s.due("holes(0, -1) of " + row, x.holes(0, NONE), NOT);
            s.due("holes(0, 0) of " + row, x.holes(0, 0), NOT);
        }
    }

    private void fillings() {
        s.terms("in how many ways WORDS can stand in all of them so that it is GOOD and COSTS just c;");
        AdjectiveCoupons x = Sentences.told(REALM);
        filling(x, "_", 0, 2, "0");
        filling(x, "_", 1, 0, "");
        filling(x, "_", 2, 0, "");
        filling(x, "_0", 0, 1, "4");
        filling(x, "_0", 1, 1, "3");
        filling(x, "_0", 2, 3, "1");
        filling(x, "_0", 3, 0, "");
        filling(x, "0_", 0, 1, "4");
        filling(x, "0_0_", 0, 1, "44");
        filling(x, "__0", 4, 9, "11");
        filling(x, "_1", 2, 0, "");
        filling(x, "11111110", 14, 1, "");
        filling(x, "11111110", 13, 0, "");
        filling(x, "01", 2, 0, "");
        filling(x, "", 0, 0, "");
        filling(new AdjectiveCoupons(), "_", 0, 0, "");
        filling(new AdjectiveCoupons(), "", 0, 0, "");
        AdjectiveCoupons y = Sentences.told(REALM + ";twice;names;change 0 4 1");
        filling(y, "1_0", 2, 1, "1");
        filling(y, "_10", 2, 3, "0");
        filling(y, "1_", 0, 1, "4");
        filling(y, "_0", 2, 3, "1");
        y.week();
        filling(y, "1_", 0, 2, "0");
        filling(y, "_0", 0, 6, "0");
    }

    private void firstFilling() {
        s.terms("the first (by the WORD in the first HOLE, then the next).");
        AdjectiveCoupons x = Sentences.told(REALM);
        filling(x, "__0", 3, 6, "13");
        filling(x, "__0", 2, 10, "01");
        filling(x, "___", 0, 5, "040");
        filling(x, "_1_", 2, 4, "00");
        filling(x, "_4_0", 1, 3, "03");
    }

    private void cheapest() {
        s.promise(22, "CHEAPEST: what it COSTS (i NONE), the WORD at place i;");
        AdjectiveCoupons x = Sentences.told(REALM + ";names");
        order(x, "140213", 5, 2, "011324");
        order(x, "4213", 3, 1, "1324");
        order(x, "444444", 0, 0, "444444");
        s.promise(22, "NONE: no order is GOOD, not so many.");
        s.unchanged("cheapest(-1), none good", NONE, () -> Sentences.laid(REALM, "123"), y -> y.cheapest(NONE));
        s.unchanged("cheapest(0), none good", NONE, () -> Sentences.laid(REALM, "123"), y -> y.cheapest(0));
        s.unchanged("cheapest(-1), empty", NONE, () -> Sentences.told(REALM), y -> y.cheapest(NONE));
        s.unchanged("cheapest(0), empty", NONE, () -> Sentences.told(REALM), y -> y.cheapest(0));
        s.unchanged("cheapest(-1), nothing told", NONE, AdjectiveCoupons::new, y -> y.cheapest(NONE));
        for (int i : new int[] {4, 5, 6, 8, 1000, Integer.MAX_VALUE}) {
            s.unchanged("cheapest(" + i + ") of four", NONE, Sentences::worn, y -> y.cheapest(i));
        }
        s.unchanged("cheapest(5) of six", 4, () -> Sentences.laid(REALM, "444444"), y -> y.cheapest(5));
        s.unchanged("cheapest(6) of six", NONE, () -> Sentences.laid(REALM, "444444"), y -> y.cheapest(6));
    }

    private void cheapestRefused() {
        s.promise(22, "OUTSIDE: i below NONE;");
        for (int i : new int[] {-2, -3, Integer.MIN_VALUE}) {
            s.unchanged("cheapest(" + i + ")", OUTSIDE, Sentences::worn, y -> y.cheapest(i));
            s.unchanged("cheapest(" + i + "), a hole", OUTSIDE, OrdersSentences::withHoles, y -> y.cheapest(i));
            s.unchanged("cheapest(" + i + "), empty", OUTSIDE, AdjectiveCoupons::new, y -> y.cheapest(i));
        }
        s.promise(22, "NOT: a HOLE, above 6 WORDS.");
        for (String row : new String[] {"_", "4_", "_4", "44444_", "4444444", "44444444", "4444444_", "123_"}) {
            s.unchanged("cheapest(-1) of " + row, NOT, () -> Sentences.laid(REALM, row), y -> y.cheapest(NONE));
            s.unchanged("cheapest(0) of " + row, NOT, () -> Sentences.laid(REALM, row), y -> y.cheapest(0));
            s.unchanged("cheapest(9) of " + row, NOT, () -> Sentences.laid(REALM, row), y -> y.cheapest(9));
        }
    }

    private void loophole() {
        s.promise(23, "LOOPHOLE;");
        s.unchanged("loophole() of six", 4, () -> Sentences.laid(REALM + ";names;swell", "125304"), AdjectiveCoupons::loophole);
        s.unchanged("loophole() of one", 0, () -> Sentences.laid(REALM, "4"), AdjectiveCoupons::loophole);
        s.promise(23, "NONE: no order is GOOD.");
        s.unchanged("loophole(), none good", NONE, () -> Sentences.laid(REALM, "123"), AdjectiveCoupons::loophole);
        s.unchanged("loophole(), empty", NONE, () -> Sentences.told(REALM), AdjectiveCoupons::loophole);
        s.unchanged("loophole(), nothing told", NONE, AdjectiveCoupons::new, AdjectiveCoupons::loophole);
        s.promise(23, "NOT: a HOLE, above 6 WORDS.");
        for (String row : new String[] {"_", "4_", "_4", "44444_", "4444444", "44444444", "4444444_", "123_"}) {
            s.unchanged("loophole() of " + row, NOT, () -> Sentences.laid(REALM, row), AdjectiveCoupons::loophole);
        }
    }

    private void leftOut() {
        s.promise(24, "LEFT OUT: how many (what 0), the places (1).");
        s.unchanged("leftOut(0, 0)", 2, Sentences::worn, y -> y.leftOut(0, 0));
        s.unchanged("leftOut(0, 1)", 3, Sentences::worn, y -> y.leftOut(0, 1));
        s.unchanged("leftOut(99, 0)", 0, Sentences::worn, y -> y.leftOut(99, 0));
        s.unchanged("leftOut(99, 1)", 0, Sentences::worn, y -> y.leftOut(99, 1));
        s.unchanged("leftOut(0, 0), empty", 0, AdjectiveCoupons::new, y -> y.leftOut(0, 0));
        s.unchanged("leftOut(0, 1), empty", 0, AdjectiveCoupons::new, y -> y.leftOut(0, 1));
        s.promise(24, "OUTSIDE: c (0 .. 99), what.");
        for (int c : Sentences.beside(0, 99)) {
            s.unchanged("leftOut(" + c + ", 0)", OUTSIDE, Sentences::worn, y -> y.leftOut(c, 0));
            s.unchanged("leftOut(" + c + ", 1), empty", OUTSIDE, AdjectiveCoupons::new, y -> y.leftOut(c, 1));
        }
        for (int what : Sentences.beside(0, 1)) {
            s.unchanged("leftOut(0, " + what + ")", OUTSIDE, Sentences::worn, y -> y.leftOut(0, what));
        }
    }

    private void holes() {
        s.promise(25, "HOLES: in how many ways (i NONE), the WORD in HOLE i (from 0) of the first;");
        AdjectiveCoupons x = Sentences.told(REALM);
        filling(x, "_4_0", 2, 10, "01");
        filling(x, "4_4_4_4", 6, 27, "111");
        s.promise(25, "NONE: there is none, not so many.");
        s.unchanged("holes(1, 0), none", NONE, () -> Sentences.laid(REALM, "_"), y -> y.holes(1, 0));
        s.unchanged("holes(99, 0), none", NONE, () -> Sentences.laid(REALM, "_"), y -> y.holes(99, 0));
        s.unchanged("holes(99, -1), none", 0, () -> Sentences.laid(REALM, "_"), y -> y.holes(99, NONE));
        s.unchanged("holes(0, 0), no words", NONE, () -> Sentences.laid("mild", "_"), y -> y.holes(0, 0));
        s.unchanged("holes(0, 0), no holes", NONE, () -> Sentences.laid(REALM, "4"), y -> y.holes(0, 0));
        s.unchanged("holes(0, 0), empty", NONE, () -> Sentences.told(REALM), y -> y.holes(0, 0));
        for (int i : new int[] {1, 2, 3, 8, Integer.MAX_VALUE}) {
            s.unchanged("holes(0, " + i + "), one hole", NONE, () -> Sentences.laid(REALM, "4_4"), y -> y.holes(0, i));
        }
        for (int i : new int[] {3, 4, 8, Integer.MAX_VALUE}) {
            s.unchanged("holes(0, " + i + "), three", NONE, () -> Sentences.laid(REALM, "_4__"), y -> y.holes(0, i));
        }
    }

    private void holesRefused() {
        s.promise(25, "OUTSIDE: c (0 .. 99), i below NONE;");
        for (int c : Sentences.beside(0, 99)) {
            s.unchanged("holes(" + c + ", -1)", OUTSIDE, OrdersSentences::withHoles, y -> y.holes(c, NONE));
            s.unchanged("holes(" + c + ", 9), four", OUTSIDE, () -> Sentences.laid(REALM, "____"), y -> y.holes(c, 9));
        }
        for (int i : new int[] {-2, -3, Integer.MIN_VALUE}) {
            s.unchanged("holes(0, " + i + ")", OUTSIDE, OrdersSentences::withHoles, y -> y.holes(0, i));
            s.unchanged("holes(0, " + i + "), four", OUTSIDE, () -> Sentences.laid(REALM, "____"), y -> y.holes(0, i));
        }
        s.promise(25, "NOT: above 3 HOLES.");
        for (String row : new String[] {"____", "_____", "________", "_4_4_4_4"}) {
            s.unchanged("holes(0, -1) of " + row, NOT, () -> Sentences.laid(REALM, row), y -> y.holes(0, NONE));
            s.unchanged("holes(99, 4) of " + row, NOT, () -> Sentences.laid(REALM, row), y -> y.holes(99, 4));
        }
    }
}
