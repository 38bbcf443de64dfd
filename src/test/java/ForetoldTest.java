/** Promises 22 to 36: what is foretold, drafts, who settles with whom, what is counted. */
public final class ForetoldTest {
    private static final int NONE = -1, UNKNOWN = -2, OUTSIDE = -3, NOT = -4, FULL = -5;
    private static final Checks C = new Checks();
    private static final String REALM =
        "noun 5;plain 7;colour 9;half 3;name 8;colour 2;citizen 1;lover 1;critic 1;poet 1";

    public static void main(String[] args) {
        cheapest();
        cheapestByLaw();
        leftOut();
        leftOutTogether();
        holes();
        holesByLaw();
        draft();
        drafted();
        page();
        plan();
        planThen();
        likeness();
        author();
        left();
        leftEdges();
        net();
        payments();
        count();
        nothingChanges();
        C.finish();
    }

    private static void order(AdjectiveCoupons x, String row, int price, int loophole, String best) {
        Checks.lay(x, row);
        C.due("cheapest(-1) of '" + row + "'", x.cheapest(NONE), price);
        C.due("loophole() of '" + row + "'", x.loophole(), loophole);
        for (int i = 0; i < best.length(); i++) {
            C.due("cheapest(" + i + ") of '" + row + "'", x.cheapest(i), best.charAt(i) - '0');
        }
        int behind = price < 0 ? price : NONE;
        C.due("cheapest behind of '" + row + "'", x.cheapest(best.length()), behind);
        C.due("cheapest(most) of '" + row + "'", x.cheapest(Integer.MAX_VALUE), behind);
        C.due("cheapest(-2) of '" + row + "'", x.cheapest(-2), OUTSIDE);
    }

    private static void cheapest() {
        AdjectiveCoupons x = C.told(REALM + ";change 1 0 1");
        order(x, "", NONE, NONE, "");
        order(x, "0", 0, 0, "0");
        order(x, "1", NONE, NONE, "");
        order(x, "10", 2, 0, "10");
        order(x, "01", 2, 0, "10");
        order(x, "00", NONE, NONE, "");
        order(x, "400", 0, 0, "040");
        order(x, "4310", 3, 0, "0134");
        order(x, "555550", 10, 0, "555550");
        order(x, "0_", NOT, NOT, "");
        order(x, "_", NOT, NOT, "");
        order(x, "4444444", NOT, NOT, "");
        order(x, "44444_44", NOT, NOT, "");
        x.week();
        order(x, "10", NONE, NONE, "");
        order(x, "1", 0, 0, "1");
        order(x, "1240", 2, 0, "0214");
    }

    private static void cheapestByLaw() {
        AdjectiveCoupons x = C.told(REALM + ";names");
        order(x, "104", 0, 2, "014");
        order(x, "1424", 0, 2, "1424");
        order(x, "2144", 0, 2, "1424");
        order(x, "110", 4, 0, "110");
        AdjectiveCoupons y = C.told(REALM + ";twice;swell");
        order(y, "110", 2, 0, "110");
        order(y, "1230", 6, 0, "1230");
        order(y, "12304", 5, 1, "10234");
        order(y, "511040", 4, 1, "010154");
        AdjectiveCoupons z = C.told(REALM + ";names;swell");
        Checks.lay(z, "104");
        C.due("loophole() of 104, first", z.loophole(), 2);
        Checks.lay(z, "4");
        C.due("loophole() of 4", z.loophole(), 0);
        Checks.lay(z, "1");
        C.due("loophole() of 1", z.loophole(), NONE);
        Checks.lay(z, "1244");
        C.due("loophole() of 1244", z.loophole(), 2);
        order(z, "125304", 5, 4, "102354");
    }

    private static void omission(AdjectiveCoupons x, String row, int c, int words, int places) {
        Checks.lay(x, row);
        C.due("leftOut(" + c + ", 0) of " + row, x.leftOut(c, 0), words);
        C.due("leftOut(" + c + ", 1) of " + row, x.leftOut(c, 1), places);
    }

    private static void leftOut() {
        AdjectiveCoupons x = C.told(REALM);
        omission(x, "", 0, 0, 0);
        omission(x, "1230", 99, 0, 0);
        omission(x, "1230", 5, 0, 0);
        omission(x, "1230", 4, 1, 1);
        omission(x, "1230", 3, 1, 1);
        omission(x, "1230", 2, 2, 3);
        omission(x, "1230", 1, 2, 3);
        omission(x, "1230", 0, 3, 7);
        omission(x, "3210", 4, 1, 1);
        omission(x, "3210", 3, 1, 2);
        omission(x, "11111111", 0, 8, 255);
        omission(x, "11111111", 3, 7, 127);
        omission(x, "01", 0, 1, 2);
        C.due("leftOut(-1, 0)", x.leftOut(-1, 0), OUTSIDE);
        C.due("leftOut(100, 0)", x.leftOut(100, 0), OUTSIDE);
        C.due("leftOut(0, 2)", x.leftOut(0, 2), OUTSIDE);
        C.due("leftOut(0, -1)", x.leftOut(0, -1), OUTSIDE);
    }

    private static void leftOutTogether() {
        AdjectiveCoupons x = C.told(REALM + ";names;twice");
        omission(x, "104010", 0, 1, 2);
        omission(x, "_", 0, 0, 0);
        omission(x, "_1", 0, 1, 2);
        omission(x, "1_4", 0, 1, 1);
        omission(x, "1_2_3", 2, 2, 5);
        AdjectiveCoupons y = C.told(REALM + ";swell");
        omission(y, "11011", 8, 0, 0);
        omission(y, "11_11", 7, 1, 1);
        omission(y, "11101", 8, 1, 1);
        Checks.lay(y, "10");
        y.cheapest(NONE);
        omission(y, "3_1133", 8, 1, 1);
        omission(y, "3_1133", 6, 1, 4);
    }

    private static void filling(AdjectiveCoupons x, String row, int c, int ways, String first) {
        Checks.lay(x, row);
        C.due("holes(" + c + ", -1) of " + row, x.holes(c, NONE), ways);
        for (int i = 0; i < first.length(); i++) {
            C.due("holes(" + c + ", " + i + ") of " + row, x.holes(c, i), first.charAt(i) - '0');
        }
        C.due("holes behind of " + row, x.holes(c, first.length()), NONE);
        C.due("holes(.., most) of " + row, x.holes(c, Integer.MAX_VALUE), NONE);
    }

    private static void holes() {
        AdjectiveCoupons x = C.told(REALM);
        filling(x, "_", 0, 2, "0");
        filling(x, "_", 1, 0, "");
        filling(x, "_0", 2, 3, "1");
        filling(x, "_0", 1, 1, "3");
        filling(x, "_0", 0, 1, "4");
        filling(x, "__0", 3, 6, "13");
        filling(x, "__0", 2, 10, "01");
        filling(x, "0_0_", 0, 1, "44");
        filling(x, "10", 2, 1, "");
        filling(x, "10", 3, 0, "");
        filling(x, "01", 2, 0, "");
        filling(x, "", 0, 0, "");
        filling(x, "___", 0, 5, "040");
        filling(x, "_1", 2, 0, "");
        Checks.lay(x, "____");
        C.due("holes(0, -1), four", x.holes(0, NONE), NOT);
        C.due("holes(0, 0), four", x.holes(0, 0), NOT);
        C.due("holes(100, 0), four", x.holes(100, 0), OUTSIDE);
        C.due("holes(-1, 0)", x.holes(-1, 0), OUTSIDE);
        C.due("holes(0, -2)", x.holes(0, -2), OUTSIDE);
        AdjectiveCoupons y = new AdjectiveCoupons();
        filling(y, "_", 0, 0, "");
        filling(y, "", 0, 0, "");
        AdjectiveCoupons z = C.told("name1;name1;name1;name1;name1;name1;name1;name1;name1;name1");
        filling(z, "_0__", 0, 1000, "000");
        filling(z, "0__", 0, 100, "00");
    }

    private static void holesByLaw() {
        AdjectiveCoupons x = C.told(REALM + ";twice;names;change 0 4 1");
        filling(x, "1_0", 2, 1, "1");
        filling(x, "_10", 2, 3, "0");
        filling(x, "1_", 0, 1, "4");
        x.week();
        filling(x, "1_", 0, 2, "0");
        filling(x, "_0", 0, 6, "0");
    }

    private static void draft() {
        AdjectiveCoupons x = C.told(REALM);
        C.due("draft(), empty", x.draft(), NOT);
        Checks.lay(x, "1_");
        C.due("draft(), a hole", x.draft(), NOT);
        Checks.lay(x, "1");
        C.due("burn(), none", x.burn(), 0);
        for (int i = 1; i <= 6; i++) {
            C.due("draft()", x.draft(), i);
        }
        C.due("draft(), full", x.draft(), FULL);
        C.due("the line stays", x.count(6), 1);
        x.wipe();
        C.due("draft(), full and empty", x.draft(), NOT);
        C.due("burn()", x.burn(), 6);
        C.due("burn() again", x.burn(), 0);
        C.due("drafted(0, 0, 0), burnt", x.drafted(0, 0, 0), UNKNOWN);
        C.due("page(99, 0), burnt", x.page(99, 0), 0);
        Checks.draft(x, "10", "4");
        C.due("page(99, 1)", x.page(99, 1), 3);
        C.due("plan(0, 1)", x.plan(0, 1), 3);
        C.due("burn(), two", x.burn(), 2);
        C.due("page(99, 1), burnt", x.page(99, 1), 0);
        Checks.draft(x, "4");
        C.due("plan(0, 1), one", x.plan(0, 1), 1);
        x.burn();
        C.due("plan(0, 1), burnt", x.plan(0, 1), 0);
        C.due("count(7)", x.count(7), 0);
    }

    private static void drafted() {
        AdjectiveCoupons x = C.told(REALM + ";change 1 2 1");
        Checks.draft(x, "1250", "33");
        x.wipe();
        C.due("drafted(0, 0, 0)", x.drafted(0, 0, 0), 4);
        C.due("drafted(0, 0, 1)", x.drafted(0, 0, 1), 6);
        C.due("drafted(0, 2, 1), critic", x.drafted(0, 2, 1), 4);
        C.due("drafted(0, 3, 1), poet", x.drafted(0, 3, 1), 3);
        C.due("drafted(0, 0, 2)", x.drafted(0, 0, 2), 23);
        C.due("drafted(1, 0, 0)", x.drafted(1, 0, 0), 2);
        C.due("drafted(1, 0, 1)", x.drafted(1, 0, 1), 2);
        C.due("drafted(1, 0, 2)", x.drafted(1, 0, 2), 6);
        C.due("drafted(2, 0, 0)", x.drafted(2, 0, 0), UNKNOWN);
        C.due("drafted(-1, 0, 0)", x.drafted(-1, 0, 0), UNKNOWN);
        C.due("drafted(0, 4, 0)", x.drafted(0, 4, 0), UNKNOWN);
        C.due("drafted(0, -1, 9)", x.drafted(0, -1, 9), UNKNOWN);
        C.due("drafted(0, 0, 3)", x.drafted(0, 0, 3), OUTSIDE);
        C.due("drafted(0, 0, -1)", x.drafted(0, 0, -1), OUTSIDE);
        x.week();
        C.due("drafted(0, 2, 1), week 1", x.drafted(0, 2, 1), 3);
        C.due("drafted(0, 3, 1), week 1", x.drafted(0, 3, 1), 2);
    }

    private static void paged(AdjectiveCoupons x, int h, int worth, int set) {
        C.due("page(" + h + ", 0)", x.page(h, 0), worth);
        C.due("page(" + h + ", 1)", x.page(h, 1), set);
    }

    private static void page() {
        AdjectiveCoupons x = C.told(REALM + ";change 1 0 1");
        paged(x, 9, 0, 0);
        Checks.draft(x, "10", "20", "30", "0");
        x.wipe();
        paged(x, 0, 5, 8);
        paged(x, 1, 13, 12);
        paged(x, 2, 19, 10);
        paged(x, 3, 27, 14);
        paged(x, 4, 31, 11);
        paged(x, 5, 39, 15);
        paged(x, 99, 39, 15);
        C.due("page(-1, 0)", x.page(-1, 0), OUTSIDE);
        C.due("page(100, 0)", x.page(100, 0), OUTSIDE);
        C.due("page(0, 2)", x.page(0, 2), OUTSIDE);
        C.due("page(0, -1)", x.page(0, -1), OUTSIDE);
        x.week();
        paged(x, 0, 17, 9);
        AdjectiveCoupons y = C.told("noun 0;plain 5");
        Checks.draft(y, "0", "1", "1");
        paged(y, 2, 5, 2);
        paged(y, 4, 10, 6);
    }

    private static void planned(AdjectiveCoupons x, int one, int worth, int set) {
        C.due("plan(" + one + ", 0)", x.plan(one, 0), worth);
        C.due("plan(" + one + ", 1)", x.plan(one, 1), set);
    }

    private static void plan() {
        AdjectiveCoupons x = C.told(REALM + ";ration 2");
        planned(x, 0, 0, 0);
        Checks.draft(x, "11", "111", "11");
        planned(x, 0, 28, 5);
        planned(x, 1, 35, 6);
        C.due("plan(4, 0)", x.plan(4, 0), UNKNOWN);
        C.due("plan(-1, 2)", x.plan(-1, 2), UNKNOWN);
        C.due("plan(0, 2)", x.plan(0, 2), OUTSIDE);
        C.due("plan(0, -1)", x.plan(0, -1), OUTSIDE);
        Checks.lay(x, "3");
        x.say(0);
        planned(x, 0, 14, 4);
        x.burn();
        Checks.draft(x, "25", "2525", "25");
        planned(x, 2, 44, 7);
        planned(x, 3, 44, 7);
        planned(x, 1, 33, 6);
    }

    private static void planThen() {
        AdjectiveCoupons x = C.told("noun 0;plain 5;change 1 3 1;change 1 0 3;citizen 1;lover 1;ration 2");
        Checks.draft(x, "111", "111", "11111", "11111111");
        planned(x, 0, 55, 10);
        planned(x, 1, 80, 14);
        AdjectiveCoupons y = C.told("plain 5;lover 1;ration 20");
        Checks.draft(y, "00000000", "00000000", "00000000", "00000000", "00000000", "00000000");
        planned(y, 0, 240, 63);
        AdjectiveCoupons z = C.told("noun 1;plain 5;swell;lover 1;ration 20;citizen 0", "ration 0");
        Checks.draft(z, "0", "01", "1");
        planned(z, 0, 1, 1);
    }

    private static void likeness() {
        AdjectiveCoupons x = C.told(REALM);
        C.due("likeness(4)", x.likeness(4), UNKNOWN);
        C.due("likeness(-1)", x.likeness(-1), UNKNOWN);
        C.due("likeness(0), empty", x.likeness(0), 0);
        Checks.lay(x, "_");
        C.due("likeness(0), a hole", x.likeness(0), 0);
        Checks.lay(x, "10");
        C.due("likeness(0), nothing said", x.likeness(0), 332);
        x.say(0);
        C.due("likeness(0), said", x.likeness(0), 500);
        C.due("likeness(1), nothing said", x.likeness(1), 332);
        Checks.lay(x, "1_11");
        C.due("likeness(0), thrice", x.likeness(0), 750);
        Checks.lay(x, "25");
        C.due("likeness(0), others", x.likeness(0), 250);
        Checks.lay(x, "1");
        x.say(0);
        C.due("likeness(0), 3 in 9", x.likeness(0), 333);
        Checks.lay(x, "0");
        C.due("likeness(0), 2 in 9", x.likeness(0), 222);
        C.due("likeness(3)", x.likeness(3), 166);
        AdjectiveCoupons y = C.told("noun 1;citizen 1");
        Checks.lay(y, "0");
        C.due("likeness(0), one word", y.likeness(0), 1000);
    }

    private static void author() {
        AdjectiveCoupons x = C.told(REALM);
        C.due("author(), empty", x.author(), NONE);
        Checks.lay(x, "__");
        C.due("author(), holes", x.author(), NONE);
        Checks.lay(x, "1_");
        C.due("author(), all alike", x.author(), 0);
        Checks.lay(x, "10");
        x.say(2);
        C.due("author(), who said it", x.author(), 2);
        x.say(1);
        C.due("author(), of several the least", x.author(), 1);
        Checks.lay(x, "2");
        C.due("author(), who said nothing", x.author(), 0);
        AdjectiveCoupons y = C.told("noun 1");
        C.due("author(), nobody, empty", y.author(), NONE);
        Checks.lay(y, "0");
        C.due("author(), nobody", y.author(), NONE);
    }

    private static void lefts(AdjectiveCoupons x, int pairs, int a, int b) {
        C.due("left(0)", x.left(0), pairs);
        C.due("left(1)", x.left(1), a);
        C.due("left(2)", x.left(2), b);
    }

    private static void left() {
        AdjectiveCoupons x = C.told("citizen 3;citizen 8;citizen 1;citizen 5");
        lefts(x, 6, 0, 1);
        x.trade(2, 3, 18, 0);
        lefts(x, 3, 0, 1);
        x.trade(0, 3, 17, 0);
        lefts(x, 3, 0, 1);
        x.trade(0, 3, 1, 0);
        lefts(x, 1, 3, 1);
        C.due("left(3)", x.left(3), OUTSIDE);
        C.due("left(-1)", x.left(-1), OUTSIDE);
        AdjectiveCoupons y = new AdjectiveCoupons();
        lefts(y, 0, NONE, NONE);
    }

    private static void leftEdges() {
        AdjectiveCoupons x = C.told("citizen 3;citizen 4");
        lefts(x, 0, NONE, NONE);
        x = C.told("citizen 3;citizen 5");
        lefts(x, 1, 0, 1);
        x.trade(0, 1, 1, 6);
        lefts(x, 1, 0, 1);
        x.trade(0, 1, 1, 1);
        lefts(x, 0, NONE, NONE);
        x.undo();
        lefts(x, 1, 0, 1);
        x = C.told("citizen 1;lover 9;lover 0;ration 20");
        lefts(x, 2, 0, 1);
        x.trade(2, 1, 19, 0);
        lefts(x, 2, 0, 1);
        x.trade(2, 1, 1, 0);
        lefts(x, 0, NONE, NONE);
        x = C.told("citizen 9;citizen 12");
        lefts(x, 1, 0, 1);
        x = C.told("citizen 10;citizen 20");
        lefts(x, 0, NONE, NONE);
        x = C.told("citizen 20;citizen 0;ration 0");
        lefts(x, 0, NONE, NONE);
        x.owe(0, 1, 1);
        lefts(x, 0, NONE, NONE);
    }

    private static void net() {
        AdjectiveCoupons x = C.told(REALM);
        C.due("net(0)", x.net(0), 9999);
        x.owe(0, 1, 5);
        x.owe(0, 2, 7);
        x.owe(1, 0, 2);
        C.due("net(0)", x.net(0), 9989);
        C.due("net(1)", x.net(1), 10002);
        C.due("net(2)", x.net(2), 10006);
        C.due("net(3)", x.net(3), 9999);
        C.due("net(4)", x.net(4), UNKNOWN);
        C.due("net(-1)", x.net(-1), UNKNOWN);
    }

    private static void paid(int due, int... debts) {
        AdjectiveCoupons x = C.told(REALM);
        for (int i = 0; i < debts.length; i += 3) {
            x.owe(debts[i], debts[i + 1], debts[i + 2]);
        }
        C.due("payments() of " + java.util.Arrays.toString(debts), x.payments(), due);
    }

    private static void payments() {
        C.due("payments(), nobody", new AdjectiveCoupons().payments(), 0);
        paid(0);
        paid(1, 0, 1, 5);
        paid(0, 0, 1, 5, 1, 0, 5);
        paid(1, 0, 1, 5, 1, 2, 5);
        paid(0, 0, 1, 5, 1, 2, 5, 2, 0, 5);
        paid(2, 0, 1, 5, 0, 2, 3);
        paid(2, 0, 1, 5, 2, 3, 7);
        paid(2, 0, 1, 5, 2, 3, 5);
        paid(2, 0, 3, 5, 1, 2, 6);
        paid(2, 0, 2, 3, 1, 3, 4);
        paid(3, 0, 1, 5, 0, 2, 3, 0, 3, 1);
        paid(3, 0, 2, 5, 1, 2, 1, 1, 3, 6);
        paid(2, 0, 2, 2, 0, 3, 3, 1, 2, 3, 1, 3, 2);
    }

    private static void count() {
        AdjectiveCoupons x = C.told(REALM + ";swell;names;ration 3;change 0 1 1");
        Checks.draft(x, "10", "0");
        Checks.lay(x, "5_5");
        x.week();
        x.owe(0, 1, 1);
        x.week();
        x.write('a');
        int[] due = {6, 4, 1, 3, 5, 2, 3, 2, 3, 36, 40, 1};
        for (int i = 0; i < due.length; i++) {
            C.due("count(" + i + ")", x.count(i), due[i]);
        }
        C.due("count(12)", x.count(12), OUTSIDE);
        C.due("count(-1)", x.count(-1), OUTSIDE);
    }

    private static void nothingChanges() {
        AdjectiveCoupons x = C.told(REALM + ";swell;names");
        Checks.draft(x, "10", "0");
        Checks.lay(x, "3104");
        x.cheapest(NONE);
        x.loophole();
        x.leftOut(0, 0);
        x.holes(0, 0);
        x.page(1, 0);
        x.plan(1, 1);
        x.author();
        x.payments();
        x.cost(0, 900);
        C.due("line(0)", x.line(0), 3);
        C.due("line(3)", x.line(3), 4);
        C.due("count(6)", x.count(6), 4);
        C.due("count(5)", x.count(5), 0);
        C.due("count(8)", x.count(8), 0);
        C.due("count(9)", x.count(9), 72);
        C.due("drafted(1, 0, 2)", x.drafted(1, 0, 2), 5);
    }
}
