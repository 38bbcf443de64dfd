/** Drafts, pages, plans, authors, trades left, debts settled, counts: of the Terms' third part, promises 26 to 36. */
final class PagesSentences {
    private static final int NONE = -1, UNKNOWN = -2, OUTSIDE = -3, NOT = -4, FULL = -5;
    private static final String REALM = Sentences.REALM;

    private final Sentences s;

    PagesSentences(Sentences s) {
        this.s = s;
    }

    void tell() {
        draftsAtMost();
        pages();
        pageSets();
        plans();
        plansThen();
        plansPaid();
        plansKept();
        planSets();
        likenesses();
        authors();
        tradesLeft();
        pairs();
        nets();
        fewestPayments();
        refused();
        draft();
        burn();
        drafted();
        page();
        plan();
        likeness();
        author();
        left();
        netAndPayments();
        count();
    }

    private static AdjectiveCoupons drafted(String realm, String... rows) {
        AdjectiveCoupons x = Sentences.told(realm);
        Checks.draft(x, rows);
        x.wipe();
        return x;
    }

    private void draftsAtMost() {
        s.terms("DRAFTS, 6 at most, are LINES without HOLES.");
        AdjectiveCoupons x = Sentences.told(REALM);
        String[] rows = {"1", "00000000", "23", "012345", "4", "14141414"};
        for (int i = 0; i < rows.length; i++) {
            Checks.lay(x, rows[i]);
            s.due("draft() of " + rows[i], x.draft(), i + 1);
        }
        Checks.lay(x, "3");
        s.due("draft(), the seventh", x.draft(), FULL);
        int[] costs = {2, 0, 3, 7, 0, 8};
        int[] worths = {7, 40, 12, 34, 8, 60};
        for (int i = 0; i < rows.length; i++) {
            s.due("drafted(" + i + ", 0, 0)", x.drafted(i, 0, 0), rows[i].length());
            s.due("drafted(" + i + ", 0, 1)", x.drafted(i, 0, 1), costs[i]);
            s.due("drafted(" + i + ", 0, 2)", x.drafted(i, 0, 2), worths[i]);
        }
        x.burn();
        for (String row : new String[] {"", "_", "1_", "_1", "0123450_"}) {
            Checks.lay(x, row);
            s.due("draft() of '" + row + "'", x.draft(), NOT);
        }
    }

    private void page(AdjectiveCoupons x, int h, int worth, int set) {
        s.due("page(" + h + ", 0)", x.page(h, 0), worth);
        s.due("page(" + h + ", 1)", x.page(h, 1), set);
    }

    private void pages() {
        s.terms("THE PAGE: DRAFTS that COST h HALVES at most together and are of most WORTH: how much;");
        AdjectiveCoupons x = drafted(REALM, "10", "20", "30", "0");
        page(x, 0, 5, 8);
        page(x, 1, 13, 12);
        page(x, 2, 19, 10);
        page(x, 3, 27, 14);
        page(x, 4, 31, 11);
        page(x, 5, 39, 15);
        page(x, 99, 39, 15);
        x = drafted(REALM, "1", "1", "1", "1", "1", "1");
        page(x, 12, 42, 63);
        page(x, 11, 35, 31);
        page(x, 2, 7, 1);
        page(x, 1, 0, 0);
        x = drafted("plain 7;swell", "00000000", "00000000", "00000000", "00000000", "00000000", "00000000");
        page(x, 99, 224, 15);
        page(x, 88, 224, 15);
        page(x, 87, 168, 7);
        page(Sentences.told(REALM), 99, 0, 0);
    }

    private void pageSets() {
        s.terms("the set, of several the least.");
        AdjectiveCoupons x = drafted(REALM, "3", "1", "1", "2");
        page(x, 2, 9, 8);
        page(x, 4, 16, 10);
        page(x, 5, 19, 11);
        x = drafted("noun 0;noun 5;plain 5", "0", "1", "2", "1");
        page(x, 0, 10, 10);
        page(x, 2, 15, 14);
        x = drafted("noun 0;plain 0;plain 9", "0", "1", "0");
        page(x, 99, 0, 0);
        x = drafted("noun 3;plain 3", "1", "0");
        page(x, 0, 3, 2);
        page(x, 1, 3, 2);
        page(x, 2, 6, 3);
        x = drafted("noun 0;plain 3;plain 6", "1", "1", "2");
        page(x, 4, 9, 5);
        x = drafted("half 3;plain 6", "0", "0", "1");
        page(x, 2, 6, 3);
    }

    private void plan(AdjectiveCoupons x, int one, int worth, int set) {
        s.due("plan(" + one + ", 0)", x.plan(one, 0), worth);
        s.due("plan(" + one + ", 1)", x.plan(one, 1), set);
    }

    private void plans() {
        s.terms("PLAN of one: DRAFT i can be said by him in i WEEKS from now alone (0: in this one),");
        AdjectiveCoupons x = drafted("plain 5;citizen 1;lover 1;ration 1", "0", "00", "0");
        plan(x, 0, 10, 5);
        plan(x, 1, 15, 6);
        x = drafted("plain 5;citizen 1;ration 1", "0", "0", "0", "0", "0", "0");
        plan(x, 0, 30, 63);
        Checks.lay(x, "0");
        x.say(0);
        plan(x, 0, 25, 62);
        x = drafted("plain 5;lover 1;ration 0;citizen 1", "0");
        plan(x, 0, 0, 0);
        s.terms("at its COST to him then:");
        x = drafted(REALM + ";ration 2", "25", "2525", "25");
        plan(x, 2, 44, 7);
        plan(x, 3, 44, 7);
        plan(x, 0, 22, 5);
        plan(x, 1, 33, 6);
    }

    private void plansThen() {
        AdjectiveCoupons x = drafted("noun 0;plain 5;change 1 3 1;change 1 0 3;citizen 1;lover 1;ration 2",
            "111", "111", "11111", "11111111");
        plan(x, 0, 55, 10);
        plan(x, 1, 80, 14);
        x = drafted("plain 5;change 0 3 1;change 0 0 2;citizen 1;ration 1", "00", "00");
        s.due("in week 0: plan(0, 1)", x.plan(0, 1), 2);
        x.week();
        s.due("in week 1: plan(0, 1)", x.plan(0, 1), 3);
        x = drafted("noun 5;change 0 1 7;citizen 1;ration 1", "00", "00", "00", "00", "00", "00");
        s.due("in week 0, as far as week 5: plan(0, 1)", x.plan(0, 1), 63);
        x.week();
        s.due("in week 1, as far as week 6: plan(0, 1)", x.plan(0, 1), 63);
        x.week();
        s.due("in week 2, as far as week 7: plan(0, 1)", x.plan(0, 1), 31);
        x.week();
        s.due("in week 3, as far as week 8: plan(0, 1)", x.plan(0, 1), 15);
    }

    private void plansPaid() {
        s.terms("of all sets that he can pay for,");
        AdjectiveCoupons x = drafted("plain 5;half 1;citizen 1;ration 1", "00", "0", "01", "1");
        plan(x, 0, 6, 10);
        x = drafted("noun 5;plain 1;citizen 1;ration 0", "0", "1", "0");
        plan(x, 0, 10, 5);
        s.terms("with what he has, gets, keeps,");
        x = drafted("plain 5;half 1;citizen 1;citizen 1;ration 1", "00", "0");
        plan(x, 0, 5, 2);
        x.trade(1, 0, 1, 0);
        plan(x, 0, 5, 2);
        x.trade(1, 0, 1, 0);
        plan(x, 0, 15, 3);
        x.trade(0, 1, 3, 0);
        plan(x, 0, 5, 2);
    }

    private void plansKept() {
        AdjectiveCoupons x = drafted("plain 5;noun 1;swell;lover 1;ration 5",
            "1", "00000000", "00000000", "00000000", "00000000", "00000000");
        for (int week = 0; week < 5; week++) {
            x.week();
        }
        s.due("60 halves", x.one(0, 1), 60);
        s.due("above 60 he keeps none: plan(0, 1)", x.plan(0, 1), 31);
        s.due("above 60 he keeps none: plan(0, 0)", x.plan(0, 0), 161);
        x = drafted("noun 0;plain 5;half 9;lover 1;ration 1", "0", "0", "1112");
        s.due("6 he keeps, 7 it costs: plan(0, 1)", x.plan(0, 1), 0);
        x = drafted("noun 0;plain 5;lover 1;citizen 1;critic 1;poet 1;ration 1", "0", "0", "111");
        plan(x, 0, 15, 4);
        plan(x, 1, 0, 0);
        plan(x, 2, 0, 0);
        plan(x, 3, 0, 0);
    }

    private void planSets() {
        s.terms("the one of most WORTH: how much;");
        AdjectiveCoupons x = drafted("plain 1;plain 2;plain 30;lover 1;ration 1", "0", "01", "222");
        plan(x, 0, 90, 4);
        x = drafted("plain 30;plain 1;lover 1;ration 1", "0", "1", "11");
        plan(x, 0, 32, 5);
        s.terms("the set, of several the least.");
        x = drafted("plain 5;lover 1;ration 1", "0", "00", "0");
        plan(x, 0, 15, 6);
        x = drafted("plain 5;lover 1;ration 1", "0", "00", "000");
        plan(x, 0, 15, 4);
        x = drafted("plain 5;lover 1;ration 1", "0", "0", "00");
        plan(x, 0, 15, 5);
        x = drafted("plain 0;noun 0;lover 1", "0", "1", "0");
        plan(x, 0, 0, 0);
    }

    private void likenesses() {
        s.terms("LIKENESS of THE LINE to one: for each of its WORDS 1000 times how often he said it and 1, by how many "
            + "WORDS he said in all and how many WORDS there are, cut; together.");
        AdjectiveCoupons x = Sentences.laid(REALM, "10");
        s.due("nothing said, 2 * 166", x.likeness(0), 332);
        x.say(0);
        s.due("said, 2 * 250", x.likeness(0), 500);
        s.due("to another", x.likeness(1), 332);
        Checks.lay(x, "1_11");
        s.due("three places, a hole", x.likeness(0), 750);
        Checks.lay(x, "1");
        x.say(0);
        s.due("3 in 9", x.likeness(0), 333);
        Checks.lay(x, "102345__");
        s.due("333, 222, 4 * 111", x.likeness(0), 999);
        Checks.lay(x, "________");
        s.due("holes", x.likeness(0), 0);
        x.wipe();
        s.due("empty", x.likeness(0), 0);
        s.due("one word", Sentences.laid("noun 1;poet 1", "0").likeness(0), 1000);
        s.due("eight times one word", Sentences.laid("noun 1;poet 1", "00000000").likeness(0), 8000);
        x = Sentences.laid("noun 1;name 1;poet 1", "00000000");
        for (int i = 0; i < 124; i++) {
            x.say(0);
        }
        Checks.lay(x, "1");
        s.due("1 in 994", x.likeness(0), 1);
        Checks.lay(x, "000000");
        x.say(0);
        Checks.lay(x, "1");
        s.due("1 in 1000", x.likeness(0), 1);
        Checks.lay(x, "0");
        s.due("999 in 1000", x.likeness(0), 999);
        x.say(0);
        Checks.lay(x, "1");
        s.due("1 in 1001", x.likeness(0), 0);
    }

    private void authors() {
        s.terms("AUTHOR: whose is greatest,");
        AdjectiveCoupons x = Sentences.laid(REALM, "14");
        x.say(3);
        s.due("the last", x.author(), 3);
        x.say(1);
        x.say(1);
        s.due("who said it twice", x.author(), 1);
        Checks.lay(x, "1_");
        x.undo();
        x.undo();
        x.undo();
        s.due("nobody said anything", x.author(), 0);
        s.terms("of several the least.");
        Checks.lay(x, "10");
        x.say(3);
        x.say(2);
        s.due("two alike", x.author(), 2);
        Checks.lay(x, "5");
        s.due("who said nothing", x.author(), 0);
        x = Sentences.laid("noun 1;name 1;poet 1", "00000000");
        for (int i = 0; i < 125; i++) {
            x.say(0);
        }
        Checks.lay(x, "1");
        s.due("likeness(0)", x.likeness(0), 0);
        s.due("greatest is 0", x.author(), 0);
    }

    private void lefts(AdjectiveCoupons x, int pairs, int a, int b) {
        s.due("left(0)", x.left(0), pairs);
        s.due("left(1)", x.left(1), a);
        s.due("left(2)", x.left(2), b);
    }

    private void tradesLeft() {
        s.terms("A TRADE is left of a and b: a has a HALF,");
        AdjectiveCoupons x = Sentences.told("citizen 3;citizen 5;citizen 4");
        lefts(x, 1, 0, 1);
        x.trade(0, 2, 17, 0);
        s.due("one(0, 1)", x.one(0, 1), 1);
        lefts(x, 1, 0, 1);
        x.trade(0, 2, 1, 0);
        lefts(x, 0, NONE, NONE);
        s.terms("b fewer than 60");
        x = Sentences.told("citizen 3;citizen 5;citizen 4;ration 20");
        x.trade(2, 1, 19, 0);
        s.due("one(1, 1)", x.one(1, 1), 59);
        lefts(x, 1, 0, 1);
        x.trade(2, 1, 1, 0);
        lefts(x, 0, NONE, NONE);
        s.terms("and so much BREAD as is 1 more than a WANTS it,");
        x = Sentences.told("citizen 9;citizen 11");
        s.due("one(1, 2)", x.one(1, 2), 10);
        lefts(x, 1, 0, 1);
        x.trade(0, 1, 1, 1);
        lefts(x, 0, NONE, NONE);
        lefts(Sentences.told("citizen 10;citizen 20"), 0, NONE, NONE);
        x = Sentences.told("citizen 0;citizen 2;citizen 1");
        x.trade(2, 1, 1, 9);
        lefts(x, 1, 0, 1);
        x.trade(2, 1, 1, 1);
        lefts(x, 0, NONE, NONE);
        s.terms("and b WANTS it for more than that.");
        lefts(Sentences.told("citizen 3;citizen 5"), 1, 0, 1);
        lefts(Sentences.told("citizen 3;citizen 4"), 0, NONE, NONE);
        lefts(Sentences.told("citizen 3;citizen 3"), 0, NONE, NONE);
        lefts(Sentences.told("citizen 0;citizen 2"), 1, 0, 1);
        lefts(Sentences.told("citizen 0;citizen 1"), 0, NONE, NONE);
        lefts(Sentences.told("citizen 20;citizen 0"), 1, 1, 0);
        lefts(Sentences.told("citizen 2;citizen 0"), 1, 1, 0);
    }

    private void pairs() {
        s.terms("LEFT: how many such pairs; the first (by a, then b).");
        lefts(Sentences.told("citizen 0;lover 2;critic 4;poet 6"), 6, 0, 1);
        lefts(Sentences.told("citizen 6;lover 4;critic 2;poet 0"), 6, 1, 0);
        lefts(Sentences.told("citizen 9;lover 1;critic 3;poet 9"), 5, 1, 0);
        lefts(Sentences.told("citizen 3;lover 1;critic 1;poet 5"), 5, 0, 3);
        lefts(Sentences.told("citizen 7;lover 7;critic 7;poet 7"), 0, NONE, NONE);
        lefts(Sentences.told("citizen 7;lover 7;critic 8;poet 9"), 2, 0, 3);
        lefts(Sentences.told("poet 5"), 0, NONE, NONE);
    }

    private static void owe(AdjectiveCoupons x, int one, int other, int much) {
        for (int rest = much; rest > 0; rest -= 99) {
            x.owe(one, other, Math.min(99, rest));
        }
    }

    private static AdjectiveCoupons owing(int... debts) {
        AdjectiveCoupons x = Sentences.told(REALM);
        for (int i = 0; i + 2 < debts.length; i += 3) {
            owe(x, debts[i], debts[i + 1], debts[i + 2]);
        }
        return x;
    }

    private void nets() {
        s.terms("NET of one: what he is owed less what he owes.");
        AdjectiveCoupons x = owing(0, 1, 5, 0, 2, 7, 1, 0, 2);
        int[] nets = {-10, 3, 7, 0};
        for (int one = 0; one < 4; one++) {
            s.due("net(" + one + ")", x.net(one), 9999 + nets[one]);
        }
        x = owing(3, 0, 999, 3, 1, 999, 3, 2, 999);
        s.due("net(3), owes all he can", x.net(3), 7002);
        s.due("net(0)", x.net(0), 10998);
        x = owing(0, 3, 999, 1, 3, 999, 2, 3, 999);
        s.due("net(3), is owed all there can be", x.net(3), 12996);
        s.due("net(2)", x.net(2), 9000);
    }

    private void paid(int due, int... debts) {
        s.due("payments() of " + java.util.Arrays.toString(debts), owing(debts).payments(), due);
    }

    private void fewestPayments() {
        s.terms("PAYMENTS: the fewest, of one to another each, by which all NETS are 0.");
        s.due("payments(), nobody", new AdjectiveCoupons().payments(), 0);
        s.due("payments(), one", Sentences.told("poet 1").payments(), 0);
        paid(0);
        paid(1, 3, 2, 999);
        paid(0, 0, 1, 5, 1, 0, 5);
        paid(0, 0, 1, 5, 1, 2, 5, 2, 0, 5);
        paid(0, 0, 1, 5, 1, 2, 5, 2, 3, 5, 3, 0, 5);
        paid(1, 0, 1, 5, 1, 2, 5);
        paid(1, 0, 1, 5, 1, 2, 5, 2, 3, 5);
        paid(2, 0, 1, 5, 0, 2, 3);
        paid(2, 0, 1, 5, 2, 3, 7);
        paid(2, 0, 2, 5, 1, 3, 7);
        paid(2, 0, 3, 5, 1, 2, 7);
        paid(2, 0, 1, 5, 2, 3, 5);
        paid(2, 0, 1, 5, 2, 1, 5);
        paid(3, 0, 1, 5, 0, 2, 3, 0, 3, 1);
        paid(3, 0, 2, 5, 1, 2, 1, 1, 3, 6);
        paid(2, 0, 2, 2, 0, 3, 3, 1, 2, 3, 1, 3, 2);
        paid(3, 0, 3, 999, 1, 3, 999, 2, 3, 999);
        AdjectiveCoupons x = Sentences.told("poet 1;poet 1");
        x.owe(1, 0, 1);
        s.due("payments(), two", x.payments(), 1);
        x = Sentences.told("poet 1;poet 1;poet 1");
        x.owe(1, 0, 1);
        x.owe(1, 2, 1);
        s.due("payments(), three", x.payments(), 2);
        x.undo();
        s.due("payments(), one of them undone", x.payments(), 1);
    }

    private void refused() {
        s.terms("Refused, and nothing changes:");
        s.unchanged("write(256)", OUTSIDE, Sentences::worn, y -> y.write(256));
        s.unchanged("realm()", NOT, Sentences::worn, AdjectiveCoupons::realm);
        s.unchanged("say(4)", UNKNOWN, Sentences::worn, y -> y.say(4));
        s.unchanged("trade(0, 1, 19, 0)", NOT, Sentences::worn, y -> y.trade(0, 1, 19, 0));
        s.terms("UNKNOWN (no such WORD, one of PEOPLE, DRAFT;");
        s.unchanged("put(5)", UNKNOWN, Sentences::worn, y -> y.put(5));
        s.unchanged("word(5, 0)", UNKNOWN, Sentences::worn, y -> y.word(5, 0));
        s.unchanged("one(4, 0)", UNKNOWN, Sentences::worn, y -> y.one(4, 0));
        s.unchanged("drafted(2, 0, 0)", UNKNOWN, Sentences::worn, y -> y.drafted(2, 0, 0));
        s.terms("one and himself),");
        s.unchanged("trade(0, 0, 1, 0)", UNKNOWN, Sentences::worn, y -> y.trade(0, 0, 1, 0));
        s.unchanged("owe(3, 3, 1)", UNKNOWN, Sentences::worn, y -> y.owe(3, 3, 1));
        s.unchanged("owes(1, 1)", UNKNOWN, Sentences::worn, y -> y.owes(1, 1));
        s.terms("OUTSIDE (another number is not as told),");
        s.unchanged("cost(0, 1000)", OUTSIDE, Sentences::worn, y -> y.cost(0, 1000));
        s.unchanged("as(0, 5)", OUTSIDE, Sentences::worn, y -> y.as(0, 5));
        s.terms("NOT (not now: as told),");
        s.unchanged("back(1)", NOT, Sentences::worn, y -> y.back(1));
        s.unchanged("draft(), empty", NOT, () -> Sentences.told(REALM), AdjectiveCoupons::draft);
        s.terms("FULL:");
        s.unchanged("put(0), the ninth", FULL, () -> Sentences.laid(REALM, "01010101"), y -> y.put(0));
        s.terms("the first of these that fits.");
        s.unchanged("trade(4, 0, 0, -1)", UNKNOWN, Sentences::worn, y -> y.trade(4, 0, 0, -1));
        s.unchanged("trade(2, 1, 61, 99)", OUTSIDE, Sentences::worn, y -> y.trade(2, 1, 61, 99));
        s.unchanged("trade(0, 1, 60, 0): he has 18, the other 33", NOT, Sentences::worn, y -> y.trade(0, 1, 60, 0));
        s.unchanged("word(5, 4)", UNKNOWN, Sentences::worn, y -> y.word(5, 4));
        s.unchanged("cost(4, -1)", UNKNOWN, Sentences::worn, y -> y.cost(4, -1));
        s.unchanged("as(4, 5)", UNKNOWN, Sentences::worn, y -> y.as(4, 5));
        s.unchanged("drafted(0, 4, 3)", UNKNOWN, Sentences::worn, y -> y.drafted(0, 4, 3));
        s.unchanged("plan(4, 2)", UNKNOWN, Sentences::worn, y -> y.plan(4, 2));
        s.unchanged("put(9), the ninth", UNKNOWN, () -> Sentences.laid(REALM, "01010101"), y -> y.put(9));
        s.unchanged("cheapest(-2), a hole", OUTSIDE, () -> Sentences.laid(REALM, "_"), y -> y.cheapest(-2));
        s.unchanged("holes(100, 0), four", OUTSIDE, () -> Sentences.laid(REALM, "____"), y -> y.holes(100, 0));
        s.unchanged("draft(), empty, the seventh", NOT, PagesSentences::sixDrafts, y -> y.draft());
    }

    private static AdjectiveCoupons sixDrafts() {
        return drafted(REALM, "1", "1", "1", "1", "1", "0");
    }

    private static AdjectiveCoupons sixDraftsAnd(String row) {
        AdjectiveCoupons x = sixDrafts();
        Checks.lay(x, row);
        return x;
    }

    private void draft() {
        s.promise(26, "THE LINE is a DRAFT more: how many.");
        AdjectiveCoupons x = Sentences.laid(REALM, "10");
        s.due("draft()", x.draft(), 1);
        s.due("draft(), the same again", x.draft(), 2);
        s.due("the line stays", x.count(6), 2);
        x.put(4);
        s.due("draft()", x.draft(), 3);
        x.wipe();
        int[] words = {2, 2, 3};
        for (int i = 0; i < 3; i++) {
            s.due("drafted(" + i + ", 0, 0)", x.drafted(i, 0, 0), words[i]);
        }
        s.promise(26, "NOT: it is empty, or has a HOLE;");
        for (String row : new String[] {"", "_", "0_", "_0", "1_0", "________", "1234501_"}) {
            s.unchanged("draft() of '" + row + "'", NOT, () -> Sentences.laid(REALM, row), AdjectiveCoupons::draft);
            s.unchanged("draft() of '" + row + "', full", NOT, () -> sixDraftsAnd(row), AdjectiveCoupons::draft);
        }
        s.promise(26, "FULL.");
        s.due("the sixth", sixDrafts().count(7), 6);
        s.unchanged("draft(), the seventh", FULL, () -> sixDraftsAnd("4"), AdjectiveCoupons::draft);
        s.unchanged("draft(), a seventh of eight", FULL, () -> sixDraftsAnd("12345012"), AdjectiveCoupons::draft);
    }

    private void burn() {
        s.promise(27, "There are no DRAFTS: how many there were.");
        AdjectiveCoupons x = sixDraftsAnd("4");
        s.due("burn()", x.burn(), 6);
        s.due("count(7)", x.count(7), 0);
        s.due("drafted(0, 0, 0)", x.drafted(0, 0, 0), UNKNOWN);
        s.due("page(99, 0)", x.page(99, 0), 0);
        s.due("page(99, 1)", x.page(99, 1), 0);
        s.due("plan(0, 1)", x.plan(0, 1), 0);
        s.due("the line stays", x.count(6), 1);
        s.due("draft()", x.draft(), 1);
        s.due("drafted(0, 0, 2)", x.drafted(0, 0, 2), 8);
        s.due("drafted(1, 0, 0)", x.drafted(1, 0, 0), UNKNOWN);
        s.due("burn(), one", x.burn(), 1);
        s.unchanged("burn(), none", 0, () -> Sentences.told(REALM), AdjectiveCoupons::burn);
    }

    private void drafted() {
        s.promise(28, "Of a DRAFT: WORDS (what 0), COST to one (1), WORTH (2).");
        AdjectiveCoupons x = drafted(REALM + ";change 1 2 1", "1250", "1", "1", "1", "1", "33333333");
        int[][] costs = {{6, 6, 4, 3}, {6, 6, 3, 2}};
        for (int week = 0; week < 2; week++) {
            for (int one = 0; one < 4; one++) {
                s.due("drafted(0, " + one + ", 0)", x.drafted(0, one, 0), 4);
                s.due("drafted(0, " + one + ", 1) in week " + week, x.drafted(0, one, 1), costs[week][one]);
                s.due("drafted(0, " + one + ", 2)", x.drafted(0, one, 2), 23);
                s.due("drafted(5, " + one + ", 0)", x.drafted(5, one, 0), 8);
                s.due("drafted(5, " + one + ", 1)", x.drafted(5, one, 1), 8);
                s.due("drafted(5, " + one + ", 2)", x.drafted(5, one, 2), 24);
            }
            x.week();
        }
        s.promise(28, "UNKNOWN (one, too);");
        for (int draft : Sentences.beside(0, 1)) {
            s.unchanged("drafted(" + draft + ", 0, 0)", UNKNOWN, Sentences::worn, y -> y.drafted(draft, 0, 0));
            s.unchanged("drafted(" + draft + ", 0, 3)", UNKNOWN, Sentences::worn, y -> y.drafted(draft, 0, 3));
        }
        for (int one : Sentences.beside(0, 3)) {
            for (int what = 0; what < 4; what++) {
                int which = what;
                s.unchanged("drafted(1, " + one + ", " + what + ")", UNKNOWN, Sentences::worn, y -> y.drafted(1, one, which));
            }
        }
        s.unchanged("drafted(6, 0, 0) of six", UNKNOWN, PagesSentences::sixDrafts, y -> y.drafted(6, 0, 0));
        s.unchanged("drafted(0, 0, 0) of none", UNKNOWN, () -> Sentences.told(REALM), y -> y.drafted(0, 0, 0));
        s.promise(28, "OUTSIDE.");
        for (int what : Sentences.beside(0, 2)) {
            s.unchanged("drafted(1, 3, " + what + ")", OUTSIDE, Sentences::worn, y -> y.drafted(1, 3, what));
        }
    }

    private void page() {
        s.promise(29, "THE PAGE: WORTH (what 0), the set (1).");
        s.unchanged("page(0, 0)", 8, Sentences::worn, y -> y.page(0, 0));
        s.unchanged("page(0, 1)", 2, Sentences::worn, y -> y.page(0, 1));
        s.unchanged("page(2, 0)", 22, Sentences::worn, y -> y.page(2, 0));
        s.unchanged("page(2, 1)", 3, Sentences::worn, y -> y.page(2, 1));
        s.unchanged("page(99, 1) of six", 63, PagesSentences::sixDrafts, y -> y.page(99, 1));
        s.unchanged("page(0, 1) of six", 32, PagesSentences::sixDrafts, y -> y.page(0, 1));
        s.unchanged("page(99, 0), no drafts", 0, AdjectiveCoupons::new, y -> y.page(99, 0));
        s.unchanged("page(0, 1), no drafts", 0, AdjectiveCoupons::new, y -> y.page(0, 1));
        s.promise(29, "OUTSIDE: h (0 .. 99), what.");
        for (int h : Sentences.beside(0, 99)) {
            s.unchanged("page(" + h + ", 0)", OUTSIDE, Sentences::worn, y -> y.page(h, 0));
            s.unchanged("page(" + h + ", 1), no drafts", OUTSIDE, AdjectiveCoupons::new, y -> y.page(h, 1));
        }
        for (int what : Sentences.beside(0, 1)) {
            s.unchanged("page(0, " + what + ")", OUTSIDE, Sentences::worn, y -> y.page(0, what));
        }
    }

    private void plan() {
        s.promise(30, "PLAN: WORTH (what 0), the set (1).");
        s.unchanged("plan(3, 0)", 22, Sentences::worn, y -> y.plan(3, 0));
        s.unchanged("plan(3, 1)", 3, Sentences::worn, y -> y.plan(3, 1));
        s.unchanged("plan(0, 1) of six", 63, PagesSentences::sixDrafts, y -> y.plan(0, 1));
        s.unchanged("plan(0, 0), no drafts", 0, () -> Sentences.told(REALM), y -> y.plan(0, 0));
        s.unchanged("plan(0, 1), no drafts", 0, () -> Sentences.told(REALM), y -> y.plan(0, 1));
        s.promise(30, "UNKNOWN;");
        for (int one : Sentences.beside(0, 3)) {
            s.unchanged("plan(" + one + ", 0)", UNKNOWN, Sentences::worn, y -> y.plan(one, 0));
            s.unchanged("plan(" + one + ", 2)", UNKNOWN, Sentences::worn, y -> y.plan(one, 2));
        }
        s.promise(30, "OUTSIDE.");
        for (int what : Sentences.beside(0, 1)) {
            s.unchanged("plan(3, " + what + ")", OUTSIDE, Sentences::worn, y -> y.plan(3, what));
        }
    }

    private void likeness() {
        s.promise(31, "LIKENESS.");
        s.unchanged("likeness(3), nothing said", 664, () -> Sentences.laid(REALM, "1234"), y -> y.likeness(3));
        s.unchanged("likeness(3), empty", 0, () -> Sentences.told(REALM), y -> y.likeness(3));
        s.unchanged("likeness(3), no words told", 0, () -> Sentences.laid("poet 1", "_"), y -> y.likeness(0));
        s.promise(31, "UNKNOWN.");
        for (int one : Sentences.beside(0, 3)) {
            s.unchanged("likeness(" + one + ")", UNKNOWN, Sentences::worn, y -> y.likeness(one));
        }
        s.unchanged("likeness(0), nobody", UNKNOWN, AdjectiveCoupons::new, y -> y.likeness(0));
    }

    private void author() {
        s.promise(32, "AUTHOR;");
        s.unchanged("author()", 1, Sentences::worn, AdjectiveCoupons::author);
        s.promise(32, "NONE: nobody is there, or no WORD in THE LINE.");
        s.unchanged("author(), nothing told", NONE, AdjectiveCoupons::new, AdjectiveCoupons::author);
        s.unchanged("author(), nobody", NONE, () -> Sentences.laid("noun 1", "0"), AdjectiveCoupons::author);
        for (String row : new String[] {"", "_", "________"}) {
            s.unchanged("author() of '" + row + "'", NONE, () -> Sentences.laid(REALM, row), AdjectiveCoupons::author);
        }
        s.unchanged("author(), one word", 0, () -> Sentences.laid(REALM, "_______0"), AdjectiveCoupons::author);
        s.unchanged("author(), one word ahead", 0, () -> Sentences.laid(REALM, "0_______"), AdjectiveCoupons::author);
    }

    private void left() {
        s.promise(33, "LEFT: how many (what 0), a (1; NONE), b (2; NONE).");
        s.unchanged("left(0)", 5, Sentences::worn, y -> y.left(0));
        s.unchanged("left(1)", 0, Sentences::worn, y -> y.left(1));
        s.unchanged("left(2)", 1, Sentences::worn, y -> y.left(2));
        lefts(new AdjectiveCoupons(), 0, NONE, NONE);
        lefts(Sentences.told(REALM), 0, NONE, NONE);
        s.promise(33, "OUTSIDE.");
        for (int what : Sentences.beside(0, 2)) {
            s.unchanged("left(" + what + ")", OUTSIDE, Sentences::worn, y -> y.left(what));
            s.unchanged("left(" + what + "), nobody", OUTSIDE, AdjectiveCoupons::new, y -> y.left(what));
        }
    }

    private void netAndPayments() {
        s.promise(34, "NET, and 9999.");
        int[] nets = {-6, 6, 7, -7};
        for (int one = 0; one < 4; one++) {
            int who = one;
            s.unchanged("net(" + one + ")", 9999 + nets[one], Sentences::worn, y -> y.net(who));
        }
        s.due("net(0), no debts", Sentences.told(REALM).net(0), 9999);
        s.promise(34, "UNKNOWN.");
        for (int one : Sentences.beside(0, 3)) {
            s.unchanged("net(" + one + ")", UNKNOWN, Sentences::worn, y -> y.net(one));
        }
        s.unchanged("net(0), nobody", UNKNOWN, AdjectiveCoupons::new, y -> y.net(0));
        s.promise(35, "PAYMENTS.");
        s.unchanged("payments()", 2, Sentences::worn, AdjectiveCoupons::payments);
        s.unchanged("payments(), nobody", 0, AdjectiveCoupons::new, AdjectiveCoupons::payments);
    }

    private void count() {
        s.promise(36, "0 WORDS, 1 PEOPLE, 2 CHANGES, 3 RATION, 4 RULES, 5 the WEEK, 6 places of THE LINE, 7 DRAFTS, "
            + "8 how many can be undone, 9 HALVES of all, 10 loaves of all, 11 letters of THE TEXT.");
        int[] due = {5, 4, 1, 9, 2, 1, 4, 2, 8, 88, 40, 3};
        for (int what = 0; what < due.length; what++) {
            int which = what;
            s.unchanged("count(" + what + ")", due[what], Sentences::worn, y -> y.count(which));
        }
        AdjectiveCoupons x = Sentences.told("noun1;noun1;noun1;noun1;noun1;noun1;noun1;noun1;noun1;noun1;ration20;names;twice;swell",
            "change0 1 1;change0 1 1;change0 1 1;change0 1 1;change0 1 1;change0 1 1;lover1;lover1;lover1;lover1");
        x.week();
        Checks.lay(x, "9_9_9_9_");
        int[] most = {10, 4, 6, 20, 7, 1, 8, 0, 1, 240, 40, 0};
        for (int what = 0; what < most.length; what++) {
            s.due("count(" + what + "), the most", x.count(what), most[what]);
        }
        s.promise(36, "OUTSIDE.");
        for (int what : Sentences.beside(0, 11)) {
            s.unchanged("count(" + what + ")", OUTSIDE, Sentences::worn, y -> y.count(what));
            s.unchanged("count(" + what + "), nothing told", OUTSIDE, AdjectiveCoupons::new, y -> y.count(what));
        }
    }
}
