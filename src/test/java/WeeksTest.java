/** Promises 15 to 21: weeks, trades, debts, what is undone and kept. */
public final class WeeksTest {
    private static final int UNKNOWN = -2, OUTSIDE = -3, NOT = -4, FULL = -5;
    private static final Checks C = new Checks();
    private static final String REALM = "noun 5;plain 7;citizen 1;lover 1;critic 1;poet 1";

    public static void main(String[] args) {
        week();
        lastWeek();
        trade();
        owe();
        undo();
        undoEach();
        undoAtMostEight();
        keepAndBack();
        keepsNot();
        C.finish();
    }

    private static void week() {
        AdjectiveCoupons x = C.told(REALM + ";ration 10");
        Checks.lay(x, "1");
        x.say(0);
        x.say(1);
        C.due("week()", x.week(), 1);
        C.due("citizen's halves lapse", x.one(0, 1), 20);
        C.due("lover's do not", x.one(1, 1), 38);
        C.due("critic's lapse", x.one(2, 1), 20);
        C.due("poet's lapse", x.one(3, 1), 20);
        C.due("week()", x.week(), 2);
        C.due("lover's, week 2", x.one(1, 1), 58);
        C.due("week()", x.week(), 3);
        C.due("lover's, 60 at most", x.one(1, 1), 60);
        C.due("count(5)", x.count(5), 3);
        C.due("count(6)", x.count(6), 1);
        AdjectiveCoupons z = C.told("citizen 1;lover 1;ration 2");
        z.week();
        C.due("nobody else has any", z.count(9), 12);
        AdjectiveCoupons y = C.told(REALM + ";ration 0");
        y.week();
        C.due("no ration", y.count(9), 0);
    }

    /** More calls than are promised: no run of 512 comes to week 999. */
    private static void lastWeek() {
        AdjectiveCoupons x = new AdjectiveCoupons();
        for (int week = 1; week <= 999; week++) {
            C.due("week()", x.week(), week);
        }
        C.due("week() in week 999", x.week(), FULL);
        C.due("count(5)", x.count(5), 999);
        C.due("undo()", x.undo(), 7);
        C.due("count(5), undone", x.count(5), 998);
    }

    private static void trade() {
        AdjectiveCoupons x = C.told(REALM + ";ration 20");
        C.due("trade", x.trade(0, 1, 20, 3), 60);
        C.due("his halves", x.one(0, 1), 20);
        C.due("his loaves", x.one(0, 2), 13);
        C.due("the other's loaves", x.one(1, 2), 7);
        C.due("trade, above 60", x.trade(0, 1, 1, 0), FULL);
        C.due("trade, all", x.trade(0, 2, 20, 10), 60);
        C.due("trade, no halves", x.trade(0, 3, 1, 0), NOT);
        C.due("trade, too little bread", x.trade(3, 2, 1, 1), NOT);
        C.due("trade, no halves and above 60", x.trade(0, 1, 1, 0), NOT);
        C.due("trade, too little bread and above 60", x.trade(3, 2, 1, 1), NOT);
        C.due("trade, bread for nothing else", x.trade(3, 0, 40, 23), 40);
        C.due("loaves of all", x.count(10), 40);
        C.due("halves of all", x.count(9), 160);
        C.due("trade with himself", x.trade(0, 0, 1, 0), UNKNOWN);
        C.due("trade with himself, n 0", x.trade(0, 0, 0, 0), UNKNOWN);
        C.due("trade(4, ..)", x.trade(4, 0, 1, 0), UNKNOWN);
        C.due("trade(.., 4)", x.trade(0, 4, 1, 0), UNKNOWN);
        C.due("trade(-1, ..)", x.trade(-1, 0, 1, 0), UNKNOWN);
        C.due("trade, n 0", x.trade(1, 0, 0, 0), OUTSIDE);
        C.due("trade, n 61", x.trade(1, 0, 61, 0), OUTSIDE);
        C.due("trade, bread -1", x.trade(1, 0, 1, -1), OUTSIDE);
        C.due("trade, bread 100", x.trade(1, 0, 1, 100), OUTSIDE);
        C.due("trade, bread 99", x.trade(1, 0, 1, 99), NOT);
        C.due("trade, n 60", x.trade(1, 3, 60, 0), 60);
        C.due("count(8), refused not counted", x.count(8), 4);
    }

    private static void owe() {
        AdjectiveCoupons x = C.told(REALM);
        C.due("owes, none", x.owes(0, 1), 0);
        C.due("owe", x.owe(0, 1, 1), 1);
        C.due("owe more", x.owe(0, 1, 99), 100);
        C.due("owes", x.owes(0, 1), 100);
        C.due("the other owes nothing", x.owes(1, 0), 0);
        C.due("nor a third", x.owes(0, 2), 0);
        for (int i = 2; i <= 9; i++) {
            C.due("owe more", x.owe(0, 1, 99), 1 + 99 * i);
        }
        C.due("owe, above 999", x.owe(0, 1, 108), OUTSIDE);
        C.due("owe to 991", x.owe(0, 1, 99), 991);
        C.due("owe, above 999", x.owe(0, 1, 9), FULL);
        C.due("owe to 999", x.owe(0, 1, 8), 999);
        C.due("owe, above 999", x.owe(0, 1, 1), FULL);
        C.due("owe the other way", x.owe(1, 0, 1), 1);
        C.due("owe, n 0", x.owe(0, 1, 0), OUTSIDE);
        C.due("owe, n 100", x.owe(0, 1, 100), OUTSIDE);
        C.due("owe himself", x.owe(1, 1, 0), UNKNOWN);
        C.due("owe(4, ..)", x.owe(4, 1, 1), UNKNOWN);
        C.due("owe(.., -1)", x.owe(1, -1, 1), UNKNOWN);
        C.due("owes himself", x.owes(1, 1), UNKNOWN);
        C.due("owes(4, ..)", x.owes(4, 1), UNKNOWN);
        C.due("owes(.., 4)", x.owes(1, 4), UNKNOWN);
        C.due("owes(-1, ..)", x.owes(-1, 1), UNKNOWN);
    }

    private static void undo() {
        AdjectiveCoupons x = C.told(REALM);
        C.due("undo(), none", x.undo(), NOT);
        Checks.lay(x, "10");
        x.say(0);
        x.week();
        x.trade(1, 2, 3, 4);
        x.owe(3, 0, 5);
        Checks.lay(x, "0");
        x.draft();
        C.due("undo() of owe", x.undo(), 3);
        C.due("owes, undone", x.owes(3, 0), 0);
        C.due("undo() of trade", x.undo(), 2);
        C.due("halves, undone", x.one(2, 1), 18);
        C.due("loaves, undone", x.one(2, 2), 10);
        C.due("loaves of the other, undone", x.one(1, 2), 10);
        C.due("undo() of week", x.undo(), 1);
        C.due("week, undone", x.count(5), 0);
        C.due("halves, week undone", x.one(0, 1), 16);
        C.due("lover's halves, week undone", x.one(1, 1), 18);
        C.due("undo() of say", x.undo(), 0);
        C.due("halves, say undone", x.one(0, 1), 18);
        C.due("worth, say undone", x.one(0, 4), 0);
        C.due("words said, say undone", x.one(0, 5), 0);
        C.due("undo(), no more", x.undo(), NOT);
        C.due("the line stays", x.line(0), 0);
        C.due("drafts stay", x.count(7), 1);
    }

    private static void undoEach() {
        AdjectiveCoupons x = C.told(REALM + ";ration 0");
        Checks.lay(x, "1");
        C.due("say(0), fined", x.say(0), 0);
        C.due("one(0, 3)", x.one(0, 3), 1);
        C.due("undo() of a fine", x.undo(), 0);
        C.due("one(0, 3), undone", x.one(0, 3), 0);
        Checks.lay(x, "0");
        x.say(0);
        x.undo();
        x.owe(0, 1, 3);
        C.due("undo(), another behind it", x.undo(), 0);
        C.due("owes", x.owes(0, 1), 0);
        x.owe(0, 0, 1);
        x.trade(0, 1, 1, 1);
        x.wipe();
        x.say(0);
        C.due("undo(), refused are none", x.undo(), NOT);
    }

    private static void undoAtMostEight() {
        AdjectiveCoupons x = C.told(REALM);
        for (int i = 1; i <= 11; i++) {
            x.owe(0, 1, i);
            C.due("count(8)", x.count(8), Math.min(8, i));
        }
        int due = 66;
        for (int i = 7; i >= 0; i--) {
            due -= i + 4;
            C.due("undo()", x.undo(), i);
            C.due("owes, undone", x.owes(0, 1), due);
        }
        C.due("undo(), the ninth", x.undo(), NOT);
        C.due("owes", x.owes(0, 1), 6);
        x.week();
        x.owe(0, 1, 1);
        C.due("undo()", x.undo(), 1);
        C.due("undo()", x.undo(), 0);
        C.due("owes", x.owes(0, 1), 6);
    }

    private static void keepAndBack() {
        AdjectiveCoupons x = C.told(REALM);
        C.due("back(0), nothing kept", x.back(0), NOT);
        C.due("back(2)", x.back(2), UNKNOWN);
        C.due("back(-1)", x.back(-1), UNKNOWN);
        C.due("keep(2)", x.keep(2), UNKNOWN);
        C.due("keep(-1)", x.keep(-1), UNKNOWN);
        C.due("keep(0)", x.keep(0), 0);
        C.due("back(1), nothing kept", x.back(1), NOT);
        Checks.lay(x, "10");
        x.say(0);
        x.week();
        x.trade(1, 2, 3, 4);
        x.owe(3, 0, 5);
        C.due("keep(1)", x.keep(1), 1);
        x.week();
        x.owe(3, 0, 5);
        C.due("back(1)", x.back(1), 1);
        C.due("back: owes", x.owes(3, 0), 5);
        C.due("back: halves", x.one(2, 1), 21);
        C.due("back: words said", x.word(1, 3), 1);
        C.due("back: undo()", x.undo(), NOT);
        x.owe(3, 0, 5);
        C.due("back(0)", x.back(0), 0);
        C.due("back: owes nothing", x.owes(3, 0), 0);
        C.due("back: week", x.count(5), 0);
        C.due("back: loaves", x.one(2, 2), 10);
        C.due("back: nothing said", x.word(1, 3), 0);
        C.due("back: worth", x.one(0, 4), 0);
        C.due("back(1) again", x.back(1), 1);
        C.due("back: owes again", x.owes(3, 0), 5);
        C.due("keep(0) anew", x.keep(0), 1);
        x.week();
        C.due("back(0) anew", x.back(0), 1);
    }

    private static void keepsNot() {
        AdjectiveCoupons x = C.told(REALM);
        x.keep(0);
        Checks.lay(x, "10");
        x.draft();
        x.owe(0, 1, 1);
        x.write('n');
        C.due("back(0)", x.back(0), 0);
        C.due("the line is not kept", x.count(6), 2);
        C.due("drafts are not kept", x.count(7), 1);
        C.due("the text is not kept", x.count(11), 1);
        x.owe(0, 1, 1);
        x.keep(0);
        C.due("keep() cannot be undone", x.count(8), 1);
        C.due("undo()", x.undo(), 0);
        C.due("back(0), kept ahead of the undo", x.back(0), 0);
        C.due("owes", x.owes(0, 1), 1);
        C.due("realm(), a fault", x.realm(), NOT);
        C.due("back(0) behind a fault", x.back(0), 0);
        x.erase();
        Checks.write(x, "mild");
        C.due("realm()", x.realm(), 1);
        C.due("back(0) behind a text", x.back(0), NOT);
    }
}
