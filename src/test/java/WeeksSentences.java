import java.util.function.ToIntFunction;

/** Weeks, trades, debts, what is undone and kept: promises 15 to 21. */
final class WeeksSentences {
    private static final int UNKNOWN = -2, OUTSIDE = -3, NOT = -4, FULL = -5;
    private static final String REALM = Sentences.REALM;

    private final Sentences s;

    WeeksSentences(Sentences s) {
        this.s = s;
    }

    void tell() {
        week();
        lastWeek();
        trade();
        tradeWithWhom();
        tradeNot();
        owe();
        oweRefused();
        owes();
        undo();
        undoTheLeast();
        undoEight();
        undoNone();
        keep();
        back();
        backRefused();
    }

    private void week() {
        s.promise(15, "A WEEK ends: the next one.");
        s.due("week(), nobody", new AdjectiveCoupons().week(), 1);
        AdjectiveCoupons x = Sentences.laid(REALM, "10");
        x.draft();
        x.owe(0, 1, 3);
        for (int week = 1; week <= 3; week++) {
            s.due("week()", x.week(), week);
            s.due("count(5)", x.count(5), week);
        }
        int[] halves = {18, 60, 18, 18};
        for (int one = 0; one < 4; one++) {
            s.due("one(" + one + ", 1)", x.one(one, 1), halves[one]);
            s.due("one(" + one + ", 2)", x.one(one, 2), 10);
        }
        s.due("the line stays", x.count(6), 2);
        s.due("drafts stay", x.count(7), 1);
        s.due("debts stay", x.owes(0, 1), 3);
    }

    /** In week 999, after more calls than are promised: no run of 512 calls comes there. */
    private static AdjectiveCoupons inWeek999() {
        AdjectiveCoupons x = Sentences.told(REALM);
        while (x.count(5) < 999) {
            x.week();
        }
        return x;
    }

    private void lastWeek() {
        s.promise(15, "FULL: it is WEEK 999.");
        AdjectiveCoupons x = Sentences.told(REALM);
        for (int week = 1; week <= 999; week++) {
            s.due("week()", x.week(), week);
        }
        s.due("week() in week 999", x.week(), FULL);
        s.unchanged("week() in week 999", FULL, WeeksSentences::inWeek999, AdjectiveCoupons::week);
        x.undo();
        s.due("week() in week 998", x.week(), 999);
    }

    /** The first has 60 halves, the second none, the third 40. */
    private static AdjectiveCoupons richAndPoor() {
        AdjectiveCoupons x = Sentences.told("ration 20;plain 1;lover 1;citizen 1;citizen 1;swell");
        x.week();
        Checks.lay(x, "00000000");
        x.say(1);
        x.say(1);
        return x;
    }

    private void trade() {
        s.promise(16, "One gives another one n (1 .. 60) HALVES for so much BREAD (0 .. 99): how many HALVES that one has.");
        AdjectiveCoupons x = Sentences.told(REALM);
        s.due("trade(0, 3, 1, 0)", x.trade(0, 3, 1, 0), 19);
        int[] halves = {17, 18, 18, 19};
        for (int one = 0; one < 4; one++) {
            s.due("one(" + one + ", 1)", x.one(one, 1), halves[one]);
            s.due("one(" + one + ", 2)", x.one(one, 2), 10);
        }
        s.due("trade(1, 2, 2, 10), all his bread", x.trade(1, 2, 2, 10), 20);
        s.due("one(1, 2)", x.one(1, 2), 20);
        s.due("one(2, 2)", x.one(2, 2), 0);
        s.due("one(1, 1)", x.one(1, 1), 16);
        s.due("trade(0, 1, 17, 20), all his halves", x.trade(0, 1, 17, 20), 33);
        s.due("one(0, 1)", x.one(0, 1), 0);
        s.due("one(0, 2)", x.one(0, 2), 30);
        s.due("trade(3, 0, 1, 30)", x.trade(3, 0, 1, 30), 1);
        s.due("one(3, 2), all bread there is", x.one(3, 2), 40);
        s.due("count(10)", x.count(10), 40);
        s.due("count(9)", x.count(9), 72);
        x = richAndPoor();
        s.due("one(1, 1)", x.one(1, 1), 0);
        s.due("trade(0, 1, 60, 0)", x.trade(0, 1, 60, 0), 60);
        s.due("one(0, 1)", x.one(0, 1), 0);
    }

    private void tradeWithWhom() {
        s.promise(16, "UNKNOWN;");
        for (int who : Sentences.beside(0, 3)) {
            s.unchanged("trade(" + who + ", 0, 1, 0)", UNKNOWN, Sentences::worn, y -> y.trade(who, 0, 1, 0));
            s.unchanged("trade(0, " + who + ", 1, 0)", UNKNOWN, Sentences::worn, y -> y.trade(0, who, 1, 0));
            s.unchanged("trade(" + who + ", " + who + ", 0, 0)", UNKNOWN, Sentences::worn, y -> y.trade(who, who, 0, 0));
        }
        for (int one = 0; one < 4; one++) {
            int who = one;
            s.unchanged("trade(" + one + ", himself, 1, 0)", UNKNOWN, Sentences::worn, y -> y.trade(who, who, 1, 0));
            s.unchanged("trade(" + one + ", himself, 61, 100)", UNKNOWN, Sentences::worn, y -> y.trade(who, who, 61, 100));
        }
        s.promise(16, "OUTSIDE;");
        for (int n : Sentences.beside(1, 60)) {
            s.unchanged("trade(1, 0, " + n + ", 0)", OUTSIDE, Sentences::worn, y -> y.trade(1, 0, n, 0));
            s.unchanged("trade(2, 0, " + n + ", 99)", OUTSIDE, Sentences::worn, y -> y.trade(2, 0, n, 99));
        }
        for (int bread : Sentences.beside(0, 99)) {
            s.unchanged("trade(1, 0, 1, " + bread + ")", OUTSIDE, Sentences::worn, y -> y.trade(1, 0, 1, bread));
            s.unchanged("trade(0, 1, 60, " + bread + ")", OUTSIDE, Sentences::worn, y -> y.trade(0, 1, 60, bread));
        }
    }

    private void tradeNot() {
        s.promise(16, "NOT: one has not so many HALVES,");
        s.unchanged("trade(0, 1, 19, 0) of 18", NOT, () -> Sentences.told(REALM), y -> y.trade(0, 1, 19, 0));
        s.unchanged("trade(0, 1, 60, 0) of 18", NOT, () -> Sentences.told(REALM), y -> y.trade(0, 1, 60, 0));
        s.due("trade(0, 1, 18, 0) of 18", Sentences.told(REALM).trade(0, 1, 18, 0), 36);
        s.unchanged("trade(1, 2, 1, 0) of none", NOT, WeeksSentences::richAndPoor, y -> y.trade(1, 2, 1, 0));
        s.unchanged("trade(2, 0, 41, 0) of 40, to 60", NOT, WeeksSentences::richAndPoor, y -> y.trade(2, 0, 41, 0));
        s.promise(16, "the other not so much BREAD;");
        s.unchanged("trade(0, 1, 1, 11) of 10", NOT, () -> Sentences.told(REALM), y -> y.trade(0, 1, 1, 11));
        s.unchanged("trade(0, 1, 1, 99) of 10", NOT, () -> Sentences.told(REALM), y -> y.trade(0, 1, 1, 99));
        s.due("trade(0, 1, 1, 10) of 10", Sentences.told(REALM).trade(0, 1, 1, 10), 19);
        s.unchanged("trade(2, 0, 1, 11), to 60", NOT, WeeksSentences::richAndPoor, y -> y.trade(2, 0, 1, 11));
        s.promise(16, "FULL: he would have above 60.");
        s.unchanged("trade(2, 0, 1, 0), to 60", FULL, WeeksSentences::richAndPoor, y -> y.trade(2, 0, 1, 0));
        s.unchanged("trade(0, 2, 21, 10), to 40", FULL, WeeksSentences::richAndPoor, y -> y.trade(0, 2, 21, 10));
        s.unchanged("trade(0, 2, 60, 0), to 40", FULL, WeeksSentences::richAndPoor, y -> y.trade(0, 2, 60, 0));
        s.due("trade(0, 2, 20, 0), to 40", richAndPoor().trade(0, 2, 20, 0), 60);
        s.due("trade(0, 2, 19, 0), to 40", richAndPoor().trade(0, 2, 19, 0), 59);
    }

    private static AdjectiveCoupons owing(int much) {
        AdjectiveCoupons x = Sentences.told(REALM);
        for (int rest = much; rest > 0; rest -= 99) {
            x.owe(3, 2, Math.min(99, rest));
        }
        return x;
    }

    private void owe() {
        s.promise(17, "One owes another one n (1 .. 99) more: how much then.");
        AdjectiveCoupons x = Sentences.told(REALM);
        s.due("owe(0, 1, 1)", x.owe(0, 1, 1), 1);
        s.due("owe(0, 1, 99)", x.owe(0, 1, 99), 100);
        s.due("owe(1, 0, 5)", x.owe(1, 0, 5), 5);
        s.due("owe(3, 2, 99)", x.owe(3, 2, 99), 99);
        for (int one = 0; one < 4; one++) {
            for (int other = 0; other < 4; other++) {
                int due = one == 0 && other == 1 ? 100 : one == 1 && other == 0 ? 5 : one == 3 && other == 2 ? 99 : 0;
                if (one != other) {
                    s.due("owes(" + one + ", " + other + ")", x.owes(one, other), due);
                }
            }
        }
        s.due("owe(3, 2, 9) at 990", owing(990).owe(3, 2, 9), 999);
        s.due("owe(3, 2, 99) at 900", owing(900).owe(3, 2, 99), 999);
        s.due("owe(2, 3, 1), the other way", owing(999).owe(2, 3, 1), 1);
        s.due("owe(3, 1, 1), to another", owing(999).owe(3, 1, 1), 1);
    }

    private void oweRefused() {
        s.promise(17, "UNKNOWN;");
        for (int who : Sentences.beside(0, 3)) {
            s.unchanged("owe(" + who + ", 0, 1)", UNKNOWN, Sentences::worn, y -> y.owe(who, 0, 1));
            s.unchanged("owe(0, " + who + ", 1)", UNKNOWN, Sentences::worn, y -> y.owe(0, who, 1));
            s.unchanged("owe(" + who + ", " + who + ", 0)", UNKNOWN, Sentences::worn, y -> y.owe(who, who, 0));
        }
        for (int one = 0; one < 4; one++) {
            int who = one;
            s.unchanged("owe(" + one + ", himself, 1)", UNKNOWN, Sentences::worn, y -> y.owe(who, who, 1));
            s.unchanged("owe(" + one + ", himself, 100)", UNKNOWN, Sentences::worn, y -> y.owe(who, who, 100));
        }
        s.promise(17, "OUTSIDE;");
        for (int n : Sentences.beside(1, 99)) {
            s.unchanged("owe(3, 2, " + n + ")", OUTSIDE, Sentences::worn, y -> y.owe(3, 2, n));
            s.unchanged("owe(3, 2, " + n + ") at 999", OUTSIDE, () -> owing(999), y -> y.owe(3, 2, n));
        }
        s.promise(17, "FULL: above 999.");
        s.unchanged("owe(3, 2, 1) at 999", FULL, () -> owing(999), y -> y.owe(3, 2, 1));
        s.unchanged("owe(3, 2, 10) at 990", FULL, () -> owing(990), y -> y.owe(3, 2, 10));
        s.unchanged("owe(3, 2, 99) at 901", FULL, () -> owing(901), y -> y.owe(3, 2, 99));
    }

    private void owes() {
        s.promise(18, "How much one owes another one.");
        s.due("owes(0, 1), nothing", Sentences.told(REALM).owes(0, 1), 0);
        s.due("owes(3, 2)", owing(999).owes(3, 2), 999);
        s.due("owes(2, 3)", owing(999).owes(2, 3), 0);
        s.unchanged("owes(3, 2)", 7, Sentences::worn, y -> y.owes(3, 2));
        s.promise(18, "UNKNOWN.");
        for (int who : Sentences.beside(0, 3)) {
            s.unchanged("owes(" + who + ", 0)", UNKNOWN, Sentences::worn, y -> y.owes(who, 0));
            s.unchanged("owes(0, " + who + ")", UNKNOWN, Sentences::worn, y -> y.owes(0, who));
            s.unchanged("owes(" + who + ", " + who + ")", UNKNOWN, Sentences::worn, y -> y.owes(who, who));
        }
        for (int one = 0; one < 4; one++) {
            int who = one;
            s.unchanged("owes(" + one + ", himself)", UNKNOWN, Sentences::worn, y -> y.owes(who, who));
        }
    }

    /** With one call to be undone, much said and owed. */
    private static AdjectiveCoupons busy() {
        AdjectiveCoupons x = Sentences.laid(REALM + ";ration 4", "123");
        x.say(3);
        x.say(3);
        x.trade(2, 1, 3, 2);
        x.owe(0, 1, 40);
        x.keep(1);
        x.back(1);
        x.week();
        x.draft();
        return x;
    }

    /** He has one half, and two calls can be undone. */
    private static AdjectiveCoupons poorPoet() {
        AdjectiveCoupons x = busy();
        x.trade(3, 0, 7, 1);
        return x;
    }

    private void undone(String call, ToIntFunction<AdjectiveCoupons> made) {
        s.unchanged(call + ", then undo()", 1, WeeksSentences::busy, y -> {
            int answer = made.applyAsInt(y);
            s.due(call + ", answered", answer >= 0 ? 1 : 0, 1);
            return y.undo();
        });
    }

    private void undo() {
        s.promise(19, "The latest say(), week(), trade(), owe() is undone");
        undone("say(1)", y -> y.say(1));
        undone("say(3)", y -> y.say(3));
        undone("week()", AdjectiveCoupons::week);
        undone("trade(0, 3, 8, 10)", y -> y.trade(0, 3, 8, 10));
        undone("owe(2, 3, 99)", y -> y.owe(2, 3, 99));
        s.unchanged("say(3), fined, then undo()", 2, WeeksSentences::poorPoet, y -> {
            s.due("say(3), fined", y.say(3), 0);
            return y.undo();
        });
        AdjectiveCoupons x = busy();
        Checks.lay(x, "4");
        x.owe(0, 1, 9);
        x.draft();
        x.put(0);
        Checks.write(x, "mild");
        s.due("undo()", x.undo(), 1);
        s.due("owes(0, 1)", x.owes(0, 1), 40);
        s.due("the line stays", x.count(6), 2);
        s.due("drafts stay", x.count(7), 2);
        s.due("the text stays", x.count(11), 4);
        s.due("undo(), the one ahead", x.undo(), 0);
        s.due("count(5)", x.count(5), 0);
        x = busy();
        x.owe(0, 1, 1);
        x.undo();
        x.owe(0, 1, 2);
        x.undo();
        s.due("what is undone is not undone again: owes(0, 1)", x.owes(0, 1), 40);
        s.due("what is undone is not undone again: undo()", x.undo(), 0);
    }

    private void undoTheLeast() {
        s.promise(19, "(also one by which nothing became other;");
        AdjectiveCoupons x = Sentences.laid("noun 0;plain 0;citizen 0;ration 0", "0");
        s.due("say(0), for nothing and of no worth", x.say(0), 1);
        s.due("count(8)", x.count(8), 1);
        Checks.lay(x, "1");
        s.due("say(0), fined with no halves", x.say(0), 0);
        s.due("count(8), fined", x.count(8), 2);
        s.due("undo()", x.undo(), 1);
        s.due("one(0, 3)", x.one(0, 3), 0);
        s.due("undo()", x.undo(), 0);
        s.due("one(0, 5)", x.one(0, 5), 0);
        x = new AdjectiveCoupons();
        s.due("week(), nobody", x.week(), 1);
        s.due("count(8), nobody", x.count(8), 1);
        s.due("undo(), nobody", x.undo(), 0);
        s.due("count(5), nobody", x.count(5), 0);
        x = Sentences.told("lover 1;lover 1;ration 0");
        x.week();
        s.due("count(8), no ration", x.count(8), 1);
        s.due("undo(), no ration", x.undo(), 0);
    }

    private void undoEight() {
        s.promise(19, "the last 8 can be):");
        AdjectiveCoupons x = Sentences.told(REALM);
        for (int i = 1; i <= 20; i++) {
            x.owe(0, 1, i);
            s.due("owe(), the " + i + "th: count(8)", x.count(8), Math.min(i, 8));
        }
        int due = 210;
        for (int i = 7; i >= 0; i--) {
            due -= 13 + i;
            s.due("undo()", x.undo(), i);
            s.due("owes(0, 1)", x.owes(0, 1), due);
        }
        s.due("undo(), the ninth", x.undo(), NOT);
        s.due("owes(0, 1), the ninth", x.owes(0, 1), 78);
        x = Sentences.told(REALM);
        for (int i = 0; i < 8; i++) {
            x.week();
        }
        for (int i = 7; i >= 0; i--) {
            s.due("undo() of just eight", x.undo(), i);
            s.due("count(5)", x.count(5), i);
        }
        s.due("undo() of just eight, the ninth", x.undo(), NOT);
        s.promise(19, "how many can be undone yet.");
        x = Sentences.told(REALM);
        x.week();
        x.owe(0, 1, 1);
        x.trade(0, 1, 1, 0);
        for (int i = 2; i >= 0; i--) {
            s.due("undo()", x.undo(), i);
            s.due("count(8)", x.count(8), i);
        }
    }

    private void undoNone() {
        s.promise(19, "NOT: none.");
        s.unchanged("undo(), a new object", NOT, AdjectiveCoupons::new, AdjectiveCoupons::undo);
        s.unchanged("undo(), a new realm", NOT, () -> Sentences.told(REALM), AdjectiveCoupons::undo);
        s.unchanged("undo(), other calls and refused ones", NOT, () -> {
            AdjectiveCoupons x = Sentences.laid(REALM + ";ration 0", "1_");
            x.say(0);
            x.trade(0, 1, 1, 0);
            x.owe(0, 0, 1);
            x.owe(0, 1, 0);
            x.draft();
            x.burn();
            x.keep(0);
            return x;
        }, AdjectiveCoupons::undo);
        s.unchanged("undo(), behind back", NOT, () -> {
            AdjectiveCoupons x = busy();
            x.back(1);
            return x;
        }, AdjectiveCoupons::undo);
        s.unchanged("undo(), all undone", NOT, () -> {
            AdjectiveCoupons x = busy();
            x.undo();
            return x;
        }, AdjectiveCoupons::undo);
    }

    private void keep() {
        s.promise(20, "All as it is (but THE TEXT, THE LINE, DRAFTS, what can be undone) is kept (k 0, 1): the WEEK.");
        s.due("keep(0), nothing told", new AdjectiveCoupons().keep(0), 0);
        AdjectiveCoupons x = Sentences.worn();
        s.due("keep(1)", x.keep(1), 1);
        s.due("count(8), it can't be undone", x.count(8), 8);
        x.wipe();
        x.burn();
        x.erase();
        x.say(0);
        x.put(4);
        s.due("back(1)", x.back(1), 1);
        s.due("the text is not kept", x.count(11), 0);
        s.due("the line is not kept", x.count(6), 1);
        s.due("drafts are not kept", x.count(7), 0);
        s.due("what can be undone is not kept", x.count(8), 0);
        x = Sentences.told(REALM);
        x.owe(0, 1, 1);
        x.keep(0);
        x.owe(0, 1, 2);
        x.keep(1);
        x.owe(0, 1, 4);
        s.due("back(0)", x.back(0), 0);
        s.due("kept as 0", x.owes(0, 1), 1);
        s.due("back(1)", x.back(1), 0);
        s.due("kept as 1", x.owes(0, 1), 3);
        x.week();
        s.due("keep(0) anew", x.keep(0), 1);
        x.owe(0, 1, 9);
        x.back(0);
        s.due("kept as 0 anew", x.owes(0, 1), 3);
        x = Sentences.told(REALM);
        x.owe(0, 1, 1);
        x.keep(0);
        s.due("undo(), of what came ahead of it", x.undo(), 0);
        s.due("back(0), kept ahead of the undo", x.back(0), 0);
        s.due("owes(0, 1)", x.owes(0, 1), 1);
        s.promise(20, "UNKNOWN: no such k.");
        for (int k : Sentences.beside(0, 1)) {
            s.unchanged("keep(" + k + ")", UNKNOWN, Sentences::worn, y -> y.keep(k));
        }
    }

    private void back() {
        s.promise(21, "It is as it was kept, nothing can be undone: the WEEK.");
        AdjectiveCoupons x = Sentences.worn();
        x.back(0);
        x.week();
        x.keep(1);
        for (int k = 0; k < 2; k++) {
            int slot = k;
            s.unchanged("back(" + k + ") behind much", k, () -> keptTwice(slot), y -> {
                y.say(0);
                y.say(1);
                s.due("say(2), fined in week 0", y.say(2), slot);
                y.say(3);
                y.trade(1, 0, 2, 1);
                y.owe(0, 1, 7);
                y.owe(2, 0, 7);
                y.week();
                s.due("it can be undone", y.count(8), 8);
                return y.back(slot);
            });
            s.unchanged("back(" + k + ") again", k, () -> keptTwice(slot), y -> y.back(slot));
        }
        s.due("back(1)", x.back(1), 1);
        x.owe(1, 0, 3);
        s.due("undo(), of what came behind it", x.undo(), 0);
        s.due("undo(), it itself cannot be", x.undo(), NOT);
    }

    /** Both are kept, in weeks 0 and 1, and the one is brought back. */
    private static AdjectiveCoupons keptTwice(int k) {
        AdjectiveCoupons x = Sentences.worn();
        x.back(0);
        x.week();
        x.owe(1, 2, 8);
        x.say(3);
        x.keep(1);
        x.back(k);
        return x;
    }

    private void backRefused() {
        s.promise(21, "UNKNOWN;");
        for (int k : Sentences.beside(0, 1)) {
            s.unchanged("back(" + k + ")", UNKNOWN, Sentences::worn, y -> y.back(k));
            s.unchanged("back(" + k + "), nothing kept", UNKNOWN, AdjectiveCoupons::new, y -> y.back(k));
        }
        s.promise(21, "NOT: nothing was kept since the last text.");
        s.unchanged("back(0), a new object", NOT, AdjectiveCoupons::new, y -> y.back(0));
        s.unchanged("back(1), a new object", NOT, AdjectiveCoupons::new, y -> y.back(1));
        s.unchanged("back(1), only 0 is kept", NOT, Sentences::worn, y -> y.back(1));
        s.unchanged("back(0), only 1 is kept", NOT, WeeksSentences::busy, y -> y.back(0));
        for (int k = 0; k < 2; k++) {
            int slot = k;
            s.unchanged("back(" + k + ") behind a text", NOT, () -> keptAheadOfText(slot), y -> y.back(slot));
        }
        AdjectiveCoupons x = Sentences.worn();
        s.due("realm(), a fault", x.realm(), NOT);
        s.due("back(0) behind a fault", x.back(0), 0);
        x = keptAheadOfText(0);
        s.due("keep(1) behind a text", x.keep(1), 0);
        s.due("back(1) behind a text", x.back(1), 0);
        s.due("back(0) behind a text", x.back(0), NOT);
    }

    private static AdjectiveCoupons keptAheadOfText(int k) {
        AdjectiveCoupons x = Sentences.told(REALM);
        x.keep(k);
        Checks.write(x, "mild");
        x.realm();
        return x;
    }
}
