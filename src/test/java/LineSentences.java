/** The line and who says it: the second part of the Terms, promises 9 to 14. */
final class LineSentences {
    private static final int NONE = -1, UNKNOWN = -2, OUTSIDE = -3, NOT = -4, FULL = -5;
    private static final String REALM = Sentences.REALM;

    private final Sentences s;

    LineSentences(Sentences s) {
        this.s = s;
    }

    void tell() {
        halves();
        line();
        costs();
        costsInWeeks();
        rules();
        swell();
        criticsAndPoets();
        holesCostNothing();
        worth();
        good();
        says();
        fined();
        weekEnds();
        kindsOfPeople();
        put();
        wipeAndLine();
        cost();
        goodNow();
        say();
    }

    private void halves() {
        s.terms("COUPONS are counted in HALVES, two each;");
        s.due("ration 1", Sentences.told("ration 1;poet 1").one(0, 1), 2);
        s.due("ration 20, of two", Sentences.told("ration 20;poet 1;lover 1").count(9), 80);
        s.terms("one has 60 HALVES at most.");
        AdjectiveCoupons x = Sentences.told("ration 10;lover 1;citizen 1");
        int[] weeks = {20, 40, 60, 60};
        for (int week = 0; week < weeks.length; week++) {
            s.due("ration 10: halves in week " + week, x.one(0, 1), weeks[week]);
            x.week();
        }
        x = Sentences.told("ration 20;lover 1;citizen 1");
        x.week();
        s.due("ration 20: 60, not 80", x.one(0, 1), 60);
        x = Sentences.told("ration 20;lover 1;citizen 1;citizen 1;citizen 1");
        x.trade(0, 1, 19, 0);
        s.due("21 halves", x.one(0, 1), 21);
        x.week();
        s.due("21 and 40: 60", x.one(0, 1), 60);
        x = Sentences.told("ration 20;lover 1;citizen 1");
        x.trade(0, 1, 20, 0);
        x.week();
        s.due("20 and 40: 60", x.one(0, 1), 60);
        x = Sentences.laid("ration 20;lover 1;citizen 1;half 1", "0");
        x.trade(0, 1, 20, 0);
        x.say(0);
        x.week();
        s.due("19 and 40: 59", x.one(0, 1), 59);
    }

    private void line() {
        s.terms("THE LINE is a row of WORDS and HOLES, 8 at most.");
        AdjectiveCoupons x = Sentences.told(REALM);
        int[] row = {5, NONE, 0, 0, NONE, NONE, 1, 4};
        for (int i = 0; i < row.length; i++) {
            s.due("put(" + row[i] + ")", x.put(row[i]), i + 1);
        }
        for (int i = 0; i < row.length; i++) {
            s.due("line(" + i + ")", x.line(i), row[i]);
        }
        s.due("put(0), the ninth", x.put(0), FULL);
        s.due("put(-1), the ninth", x.put(NONE), FULL);
        s.due("line(8)", x.line(8), OUTSIDE);
        s.due("line(7)", x.line(7), 4);
    }

    /** What a row costs the people of a realm, one after the other. */
    private void price(AdjectiveCoupons x, String row, int... due) {
        Checks.lay(x, row);
        for (int one = 0; one < due.length; one++) {
            s.due("cost(" + one + ", 0) of '" + row + "'", x.cost(one, 0), due[one]);
        }
    }

    private void costs() {
        s.terms("It COSTS one of PEOPLE, in a WEEK: for each ADJECTIVE (by KINDS in that WEEK) 2 HALVES, of KIND HALF 1;");
        AdjectiveCoupons x = Sentences.told(REALM);
        price(x, "", 0, 0, 0, 0);
        price(x, "0", 0, 0, 0, 0);
        price(x, "4", 0, 0, 0, 0);
        price(x, "1", 2, 2, 2, 2);
        price(x, "2", 2, 2, 1, 0);
        price(x, "3", 1, 1, 1, 1);
        price(x, "11", 4, 4, 4, 4);
        price(x, "111", 6, 6, 6, 6);
        price(x, "14", 2, 2, 2, 2);
        price(x, "123404", 5, 5, 4, 3);
        price(x, "11111111", 16, 16, 16, 16);
        price(x, "33333333", 8, 8, 8, 8);
    }

    private void costsInWeeks() {
        s.terms("by RULE NAMES nothing for one directly ahead of a NAME;");
        AdjectiveCoupons x = Sentences.told(REALM + ";names");
        price(x, "14", 0, 0, 0, 0);
        price(x, "34", 0);
        price(x, "24", 0, 0, 0, 0);
        price(x, "114", 2);
        price(x, "104", 2);
        price(x, "1_4", 2);
        price(x, "41", 2);
        price(x, "1", 2);
        price(x, "14141404", 0);
        price(x, "11111114", 12);
        x = Sentences.laid("plain 1;noun 1;change 1 4 2;citizen 1;names", "01");
        s.due("a name in week 2: cost(0, 1)", x.cost(0, 1), 2);
        s.due("a name in week 2: cost(0, 2)", x.cost(0, 2), 0);
    }

    private void rules() {
        s.terms("by TWICE nothing for a WORD that was in it ahead;");
        AdjectiveCoupons x = Sentences.told(REALM + ";twice");
        price(x, "1", 2);
        price(x, "11", 2);
        price(x, "25", 4);
        price(x, "1_1", 2);
        price(x, "1004031", 3);
        price(x, "11111111", 2);
        price(x, "10000001", 2);
        price(x, "2525", 4, 4, 2, 1);
        x = Sentences.laid("half 1;plain 1;change 0 1 1;citizen 1;twice", "0110");
        s.due("the first word, in week 0", x.cost(0, 0), 3);
        s.due("the first word, in week 1", x.cost(0, 1), 4);
        x = Sentences.laid("name 1;name 1;name 1;name 1;name 1;name 1;name 1;name 1;name 1;plain 1;citizen 1;twice", "9");
        s.due("the tenth word", x.cost(0, 0), 2);
        x.put(9);
        s.due("the tenth word, twice", x.cost(0, 0), 2);
    }

    private void swell() {
        s.terms("by SWELL one HALF more for each ADJECTIVE directly ahead of which two others stand");
        AdjectiveCoupons x = Sentences.told(REALM + ";swell");
        price(x, "1", 2);
        price(x, "12", 4);
        price(x, "121", 7);
        price(x, "1213", 9);
        price(x, "12131212", 21);
        price(x, "1201", 6);
        price(x, "1241", 6);
        price(x, "12_1", 6);
        price(x, "1_21", 6);
        price(x, "0121", 7);
        price(x, "111", 7);
        price(x, "331", 5);
        x = Sentences.laid("noun 1;change 0 1 1;citizen 1;swell", "000");
        s.due("nouns in week 0", x.cost(0, 0), 0);
        s.due("adjectives in week 1", x.cost(0, 1), 7);
        s.terms("(if it costs anything).");
        x = Sentences.told(REALM + ";swell;names;twice");
        price(x, "1234", 4);
        price(x, "112", 5);
        price(x, "121", 4);
        price(x, "1253", 9);
        price(x, "12534", 7);
        price(x, "1215", 7);
        price(x, "12541", 4);
        price(x, "1241", 2);
        price(x, "1413", 1);
        price(x, "1112", 5);
    }

    private void criticsAndPoets() {
        s.terms("A CRITIC is let off one HALF for each COLOUR that costs;");
        AdjectiveCoupons x = Sentences.told(REALM + ";names;twice;swell");
        price(x, "2", 2, 2, 1);
        price(x, "25", 4, 4, 2);
        price(x, "22", 2, 2, 1);
        price(x, "24", 0, 0, 0);
        price(x, "132", 6, 6, 5);
        price(x, "13", 3, 3, 3);
        price(x, "1325", 9, 9, 7);
        x = Sentences.laid("colour 1;change 0 1 1;plain 1;change 1 2 1;critic 1", "011");
        s.due("one colour in week 0", x.cost(0, 0), 5);
        s.due("two in week 1", x.cost(0, 1), 4);
        s.terms("a POET off all of the first COLOUR that costs,");
        x = Sentences.told(REALM + ";names;twice;swell");
        price(x, "2", 2, 2, 1, 0);
        price(x, "132", 6, 6, 5, 3);
        price(x, "24", 0, 0, 0, 0);
        price(x, "245", 2, 2, 1, 0);
        price(x, "13", 3, 3, 3, 3);
        s.terms("and off one HALF for each other.");
        price(x, "25", 4, 4, 2, 1);
        price(x, "2452", 2, 2, 1, 0);
        price(x, "1325", 9, 9, 7, 5);
        price(x, "2_5", 4, 4, 2, 1);
        x = Sentences.told(REALM);
        price(x, "22222222", 16, 16, 8, 7);
    }

    private void holesCostNothing() {
        s.terms("A HOLE costs nothing,");
        AdjectiveCoupons x = Sentences.told(REALM + ";names;twice;swell");
        price(x, "_", 0, 0, 0, 0);
        price(x, "________", 0, 0, 0, 0);
        price(x, "_1_", 2, 2, 2, 2);
        s.terms("and is no WORD to any RULE.");
        price(x, "1_4", 2);
        price(x, "__1", 2);
        price(x, "1_2", 4);
        price(x, "12_5", 6);
        price(x, "_12", 4);
        price(x, "1_25", 6);
        AdjectiveCoupons y = Sentences.told("plain 1;citizen 1;twice");
        price(y, "_0", 2);
        price(y, "_0_0", 2);
    }

    private void worth() {
        s.terms("WORTH of it: that of its WORDS together.");
        AdjectiveCoupons x = Sentences.told(REALM);
        Checks.draft(x, "0", "00", "012345", "44444444");
        int[] worths = {5, 10, 34, 64};
        for (int draft = 0; draft < worths.length; draft++) {
            s.due("drafted(" + draft + ", 0, 2)", x.drafted(draft, 0, 2), worths[draft]);
        }
        x = Sentences.told("noun 0;noun 30;citizen 1");
        Checks.draft(x, "00", "11111111");
        s.due("least", x.drafted(0, 0, 2), 0);
        s.due("most", x.drafted(1, 0, 2), 240);
    }

    private void goodness(AdjectiveCoupons x, String row, int due) {
        Checks.lay(x, row);
        s.due("good() of '" + row + "'", x.good(), due);
    }

    private void good() {
        s.terms("It is GOOD, if its last WORD is no ADJECTIVE,");
        AdjectiveCoupons x = Sentences.told(REALM);
        goodness(x, "0", 1);
        goodness(x, "4", 1);
        goodness(x, "1", 0);
        goodness(x, "2", 0);
        goodness(x, "3", 0);
        goodness(x, "01", 0);
        goodness(x, "12350", 1);
        goodness(x, "04040403", 0);
        goodness(x, "11111110", 1);
        s.terms("and no NOUN is directly ahead of a NOUN");
        goodness(x, "00", 0);
        goodness(x, "010", 1);
        goodness(x, "040", 1);
        goodness(x, "44", 1);
        goodness(x, "04", 1);
        goodness(x, "40", 1);
        goodness(x, "004", 0);
        goodness(x, "400", 0);
        goodness(x, "44444400", 0);
        goodness(x, "00444444", 0);
        s.terms("(empty, or with a HOLE, it is not GOOD).");
        goodness(x, "", 0);
        goodness(x, "_", 0);
        goodness(x, "_0", 0);
        goodness(x, "0_", 0);
        goodness(x, "0_4", 0);
    }

    private void says() {
        s.terms("One SAYS THE LINE: if he has what it costs now, he pays it,");
        AdjectiveCoupons x = Sentences.laid(REALM + ";ration 2", "111");
        x.trade(1, 0, 2, 0);
        s.due("say(0), just what he has", x.say(0), 1);
        s.due("one(0, 1)", x.one(0, 1), 0);
        x = Sentences.laid(REALM + ";ration 2", "13");
        s.due("say(0), less than he has", x.say(0), 1);
        s.due("one(0, 1), the rest", x.one(0, 1), 1);
        s.due("one(1, 1), nobody else pays", x.one(1, 1), 4);
        Checks.lay(x, "04");
        s.due("say(0), for nothing", x.say(0), 1);
        s.due("one(0, 1), as before", x.one(0, 1), 1);
        Checks.lay(x, "25");
        s.due("say(2), a critic", x.say(2), 1);
        s.due("one(2, 1)", x.one(2, 1), 2);
        s.due("say(3), a poet", x.say(3), 1);
        s.due("one(3, 1)", x.one(3, 1), 3);
        x = Sentences.laid("noun 1;change 0 1 1;citizen 1;ration 1", "0");
        s.due("say(0) in week 0", x.say(0), 1);
        s.due("one(0, 1) in week 0", x.one(0, 1), 2);
        x.week();
        s.due("say(0) in week 1", x.say(0), 1);
        s.due("one(0, 1) in week 1", x.one(0, 1), 0);
        x = Sentences.laid("ration 0;noun 1;citizen 1", "0");
        s.due("say(0), for nothing, with nothing", x.say(0), 1);
        s.terms("its WORTH is his,");
        x = Sentences.laid(REALM, "012345");
        x.say(3);
        s.due("one(3, 4)", x.one(3, 4), 34);
        x.say(3);
        s.due("one(3, 4), twice", x.one(3, 4), 68);
        s.due("one(0, 4)", x.one(0, 4), 0);
        s.terms("each of its WORDS is said by him once more;");
        x = Sentences.laid(REALM, "00450000");
        x.say(3);
        s.due("one(3, 5)", x.one(3, 5), 8);
        s.due("word(0, 3)", x.word(0, 3), 6);
        s.due("word(5, 3)", x.word(5, 3), 1);
        s.due("word(1, 3)", x.word(1, 3), 0);
        s.due("one(2, 5)", x.one(2, 5), 0);
    }

    private void fined() {
        s.terms("else he is FINED, once more, and has no HALVES left.");
        AdjectiveCoupons x = Sentences.laid(REALM + ";ration 2", "113");
        s.due("say(0), one more than he has", x.say(0), 0);
        int[] due = {0, 0, 10, 1, 0, 0, 1};
        for (int what = 0; what < due.length; what++) {
            s.due("one(0, " + what + ")", x.one(0, what), due[what]);
        }
        s.due("word(1, 3)", x.word(1, 3), 0);
        s.due("say(0) again", x.say(0), 0);
        s.due("one(0, 3)", x.one(0, 3), 2);
        s.due("one(0, 1)", x.one(0, 1), 0);
        s.due("one(3, 1), nobody else's", x.one(3, 1), 4);
        s.due("one(3, 3), nobody else", x.one(3, 3), 0);
        s.due("say(3)", x.say(3), 0);
        s.due("one(3, 3)", x.one(3, 3), 1);
    }

    private void weekEnds() {
        s.terms("A WEEK ends: HALVES lapse (a LOVER's do not),");
        AdjectiveCoupons x = Sentences.laid(REALM + ";ration 4", "13");
        for (int one = 0; one < 4; one++) {
            x.say(one);
        }
        x.week();
        int[] halves = {8, 13, 8, 8};
        for (int one = 0; one < 4; one++) {
            s.due("one(" + one + ", 1)", x.one(one, 1), halves[one]);
        }
        x = Sentences.told("citizen 1;poet 1;lover 1;ration 20");
        x.trade(0, 1, 20, 0);
        x.week();
        s.due("of 60 halves none is left", x.one(1, 1), 40);
        s.terms("then each has RATION more.");
        x = Sentences.told(REALM + ";ration 0");
        x.week();
        s.due("ration 0: count(9)", x.count(9), 0);
        x = Sentences.laid("ration 1;citizen 1;lover 1;plain 1", "000");
        x.say(0);
        x.say(1);
        x.week();
        s.due("fined, and one more ration", x.one(0, 1), 2);
        s.due("fined, and one more ration, a lover", x.one(1, 1), 2);
        s.due("nobody else has any", x.count(9), 4);
        s.due("bread stays", x.count(10), 20);
    }

    private void kindsOfPeople() {
        s.terms("KINDS of PEOPLE are over one another: ONE (0); CITIZEN (1) under it; LOVER (2) is a CITIZEN; "
            + "CRITIC (3) is ONE; POET (4) is a CRITIC.");
        AdjectiveCoupons x = Sentences.laid(REALM, "25");
        int[] costs = {4, 4, 2, 1};
        boolean[][] such = {{true, true, false, false, false}, {true, true, true, false, false},
            {true, false, false, true, false}, {true, false, false, true, true}};
        for (int one = 0; one < 4; one++) {
            for (int kind = 0; kind < 5; kind++) {
                s.due("as(" + one + ", " + kind + ")", x.as(one, kind), such[one][kind] ? costs[one] : NOT);
            }
        }
    }

    private static AdjectiveCoupons fullLine() {
        return Sentences.laid(REALM, "0123450_");
    }

    private void put() {
        s.promise(9, "A WORD (NONE: a HOLE) behind THE LINE: how many it has.");
        AdjectiveCoupons x = Sentences.told(REALM);
        s.due("put(5)", x.put(5), 1);
        s.due("put(-1)", x.put(NONE), 2);
        s.due("put(0)", x.put(0), 3);
        s.due("line(0)", x.line(0), 5);
        s.due("line(1)", x.line(1), NONE);
        s.due("line(2)", x.line(2), 0);
        s.due("put(-1), no words told", new AdjectiveCoupons().put(NONE), 1);
        s.promise(9, "UNKNOWN;");
        for (int word : new int[] {-2, 6, Integer.MIN_VALUE, Integer.MAX_VALUE}) {
            s.unchanged("put(" + word + ")", UNKNOWN, () -> Sentences.laid(REALM, "01_"), y -> y.put(word));
            s.unchanged("put(" + word + "), full", UNKNOWN, LineSentences::fullLine, y -> y.put(word));
        }
        s.promise(9, "FULL.");
        s.due("the eighth", fullLine().count(6), 8);
        for (int word = NONE; word < 6; word++) {
            int which = word;
            s.unchanged("put(" + word + "), the ninth", FULL, LineSentences::fullLine, y -> y.put(which));
        }
    }

    private void wipeAndLine() {
        s.promise(10, "THE LINE is empty: how many it had.");
        AdjectiveCoupons x = fullLine();
        s.due("wipe()", x.wipe(), 8);
        s.due("count(6)", x.count(6), 0);
        s.due("line(0)", x.line(0), OUTSIDE);
        s.due("put(1)", x.put(1), 1);
        s.due("wipe(), one", x.wipe(), 1);
        s.unchanged("wipe(), empty", 0, () -> Sentences.told(REALM), AdjectiveCoupons::wipe);
        s.promise(11, "Place i of THE LINE: the WORD (NONE: a HOLE).");
        x = fullLine();
        int[] row = {0, 1, 2, 3, 4, 5, 0, NONE};
        for (int i = 0; i < row.length; i++) {
            s.due("line(" + i + ")", x.line(i), row[i]);
        }
        s.promise(11, "OUTSIDE: not so many.");
        for (int i : Sentences.beside(0, 7)) {
            s.unchanged("line(" + i + "), of eight", OUTSIDE, LineSentences::fullLine, y -> y.line(i));
        }
        for (int i : Sentences.beside(0, 3)) {
            s.unchanged("line(" + i + "), of four", OUTSIDE, Sentences::worn, y -> y.line(i));
        }
        s.unchanged("line(0), empty", OUTSIDE, () -> Sentences.told(REALM), y -> y.line(0));
    }

    private void cost() {
        s.promise(12, "What THE LINE COSTS one in a WEEK (0 .. 999).");
        AdjectiveCoupons x = Sentences.laid("plain 1;change 0 3 99;change 0 0 1;citizen 1;citizen 1", "00");
        s.due("cost(0, 0)", x.cost(0, 0), 4);
        s.due("cost(0, 1)", x.cost(0, 1), 0);
        s.due("cost(0, 98)", x.cost(0, 98), 0);
        s.due("cost(0, 99)", x.cost(0, 99), 2);
        s.due("cost(0, 999)", x.cost(0, 999), 2);
        x.week();
        x.week();
        s.due("cost(1, 0) in week 2", x.cost(1, 0), 4);
        s.due("cost(1, 999) in week 2", x.cost(1, 999), 2);
        x.wipe();
        s.due("cost(0, 0), empty", x.cost(0, 0), 0);
        s.promise(12, "UNKNOWN;");
        for (int one : Sentences.beside(0, 3)) {
            s.unchanged("cost(" + one + ", 0)", UNKNOWN, Sentences::worn, y -> y.cost(one, 0));
            s.unchanged("cost(" + one + ", 1000)", UNKNOWN, Sentences::worn, y -> y.cost(one, 1000));
        }
        s.promise(12, "OUTSIDE.");
        for (int week : Sentences.beside(0, 999)) {
            s.unchanged("cost(3, " + week + ")", OUTSIDE, Sentences::worn, y -> y.cost(3, week));
        }
        s.unchanged("cost(3, 999)", 2, () -> Sentences.laid(REALM, "10"), y -> y.cost(3, 999));
    }

    private void goodNow() {
        s.promise(13, "1 THE LINE is GOOD, 0.");
        s.unchanged("good(), good", 1, () -> Sentences.laid(REALM, "10"), AdjectiveCoupons::good);
        s.unchanged("good(), not", 0, () -> Sentences.laid(REALM, "01"), AdjectiveCoupons::good);
        s.unchanged("good(), empty", 0, () -> Sentences.told(REALM), AdjectiveCoupons::good);
        s.unchanged("good(), nothing told", 0, AdjectiveCoupons::new, AdjectiveCoupons::good);
        AdjectiveCoupons x = Sentences.laid("noun 1;plain 1;change 1 4 1;change 0 3 2", "01");
        int[] weeks = {0, 1, 1};
        for (int week = 0; week < weeks.length; week++) {
            s.due("good() in week " + week, x.good(), weeks[week]);
            x.week();
        }
    }

    private void say() {
        s.promise(14, "One SAYS it: 1, 0 he is FINED.");
        AdjectiveCoupons x = Sentences.laid(REALM + ";ration 1", "1");
        s.due("say(0)", x.say(0), 1);
        s.due("say(0), fined", x.say(0), 0);
        s.due("say(3)", x.say(3), 1);
        s.due("say(3), fined", x.say(3), 0);
        s.due("count(6), the line stays", x.count(6), 1);
        s.promise(14, "UNKNOWN;");
        for (int one : Sentences.beside(0, 3)) {
            s.unchanged("say(" + one + ")", UNKNOWN, Sentences::worn, y -> y.say(one));
            s.unchanged("say(" + one + "), empty", UNKNOWN, () -> Sentences.told(REALM), y -> y.say(one));
            s.unchanged("say(" + one + "), a hole", UNKNOWN, () -> Sentences.laid(REALM, "_"), y -> y.say(one));
        }
        s.promise(14, "NOT: it is empty, or has a HOLE.");
        s.unchanged("say(0), empty", NOT, () -> Sentences.told(REALM), y -> y.say(0));
        for (String row : new String[] {"_", "_0", "0_", "1_0", "1111111_", "________"}) {
            s.unchanged("say(3) of " + row, NOT, () -> Sentences.laid(REALM + ";ration 0", row), y -> y.say(3));
        }
    }
}
