/** Promises 1 to 8: what is told. */
public final class ToldTest {
    private static final int NONE = -1, UNKNOWN = -2, OUTSIDE = -3, NOT = -4, FULL = -5;
    private static final Checks C = new Checks();

    public static void main(String[] args) {
        newObject();
        write();
        erase();
        faults();
        faultsOfNumbers();
        faultsOfRoom();
        noFaults();
        realm();
        realmBeginsAnew();
        word();
        changes();
        one();
        as();
        C.finish();
    }

    private static void newObject() {
        AdjectiveCoupons x = new AdjectiveCoupons();
        int[] counts = {0, 0, 0, 9, 0, 0, 0, 0, 0, 0, 0, 0};
        for (int i = 0; i < counts.length; i++) {
            C.due("new: count(" + i + ")", x.count(i), counts[i]);
        }
        C.due("new: word(0, 0)", x.word(0, 0), UNKNOWN);
        C.due("new: one(0, 0)", x.one(0, 0), UNKNOWN);
        C.due("new: undo()", x.undo(), NOT);
        C.due("new: back(0)", x.back(0), NOT);
        AdjectiveCoupons y = C.told("noun 1");
        C.due("new: another object's word", x.word(0, 0), UNKNOWN);
        C.due("new: its own word", y.word(0, 0), 0);
    }

    private static void write() {
        AdjectiveCoupons x = new AdjectiveCoupons();
        C.due("write(-1)", x.write(-1), OUTSIDE);
        C.due("write(256)", x.write(256), OUTSIDE);
        C.due("write(least)", x.write(Integer.MIN_VALUE), OUTSIDE);
        C.due("write(most)", x.write(Integer.MAX_VALUE), OUTSIDE);
        C.due("write(0)", x.write(0), 1);
        C.due("write(255)", x.write(255), 2);
        for (int i = 3; i <= 160; i++) {
            C.due("write(97), the " + i + "th", x.write(97), i);
        }
        C.due("write(97), the 161st", x.write(97), FULL);
        C.due("write(256), full", x.write(256), OUTSIDE);
        C.due("count(11), full", x.count(11), 160);
        C.due("fault(), letters 0 to 255", x.fault(), 0);
    }

    private static void erase() {
        AdjectiveCoupons x = new AdjectiveCoupons();
        C.due("erase(), empty", x.erase(), 0);
        Checks.write(x, "noun 1;");
        C.due("erase()", x.erase(), 7);
        C.due("count(11) behind erase()", x.count(11), 0);
        C.due("erase() again", x.erase(), 0);
        Checks.write(x, "citizen 2");
        C.due("realm() behind erase()", x.realm(), 1);
        C.due("count(0) behind erase()", x.count(0), 0);
        C.due("count(1) behind erase()", x.count(1), 1);
    }

    private static void fault(String text, int place) {
        AdjectiveCoupons x = new AdjectiveCoupons();
        Checks.write(x, text);
        C.due("fault() of '" + text + "'", x.fault(), place);
        C.due("realm() of '" + text + "'", x.realm() == NOT ? NOT : 0, place == NONE ? 0 : NOT);
        C.due("count(11) of '" + text + "'", x.count(11), place == NONE ? 0 : text.length());
    }

    private static void faults() {
        fault("", 0);
        fault("   ", 3);
        fault(";", 0);
        fault(" ;", 1);
        fault("noun", 4);
        fault("noun ", 5);
        fault("noun;", 4);
        fault("noun 1;", 7);
        fault("noun 1; ", 8);
        fault("noun 1;;", 7);
        fault("noun 1 2", 7);
        fault("noun 1a", 6);
        fault("noun 1 names", 7);
        fault("noun names", 5);
        fault("nouns 1", 0);
        fault("nou 1", 0);
        fault("nounplain 1", 0);
        fault("Noun 1", 0);
        fault("nOun 1", 0);
        fault("5", 0);
        fault("names 1", 6);
        fault("names names", 6);
        fault("names.", 5);
        fault("names, twice", 5);
        fault("realm 1", 6);
        fault("mild\n", 4);
        fault("mild\t;names", 4);
        fault("\u00e9names", 0);
        fault("names\u00ff", 5);
        fault("noun -1", 5);
        fault("change", 6);
        fault("change 0", 7);
        fault("noun 1;change 0", 15);
        fault("noun 1;change 0 1", 17);
        fault("noun 1;change 0 1;", 17);
        fault("noun 1;change 0 1 2 3", 20);
        fault("noun 1;change 0 noun 2", 16);
        fault("ration names", 7);
        fault("citizen;names", 7);
        fault("one 1", 0);
    }

    private static void faultsOfNumbers() {
        fault("noun 30", NONE);
        fault("noun 31", 5);
        fault("noun 100", 5);
        fault("noun 005", 5);
        fault("name 31", 5);
        fault("citizen 20", NONE);
        fault("citizen 21", 8);
        fault("poet 21", 5);
        fault("ration 20", NONE);
        fault("ration 21", 7);
        fault("ration 0", NONE);
        fault("ration 000", 7);
        fault("noun 1;change 1 0 0", 14);
        fault("noun 1;change 0 4 0", NONE);
        fault("noun 1;change 0 5 0", 16);
        fault("noun 1;change 0 0 99", NONE);
        fault("noun 1;change 0 0 100", 18);
        fault("noun 1;change 00 01 02", NONE);
        fault("noun 1;realm;change 0 0 0", 20);
        fault("change 0 0 0;noun 1", 7);
    }

    private static void faultsOfRoom() {
        String tenWords = "noun1;plain1;colour1;half1;name1;noun1;plain1;colour1;half1;name1";
        fault(tenWords, NONE);
        fault(tenWords + ";names", NONE);
        fault(tenWords + ";noun1", tenWords.length() + 1);
        fault(tenWords + ";half", tenWords.length() + 1);
        fault(tenWords + ";realm;noun1", NONE);
        fault("poet1;poet1;lover1;critic1", NONE);
        fault("poet1;poet1;lover1;critic1;citizen1", 27);
        fault("poet1;poet1;lover1;critic1;realm;citizen1", NONE);
        String sixChanges = "noun1;change0 0 0;change0 0 0;change0 0 0;change0 0 0;change0 0 0;change0 0 0";
        fault(sixChanges, NONE);
        fault(sixChanges + ";change0 0 0", sixChanges.length() + 1);
        String clauses = "mild;mild;mild;mild;mild;mild;mild;mild;mild;mild;mild;mild;mild;mild";
        fault(clauses, NONE);
        fault(clauses + " ", NONE);
        fault(clauses + ";", 69);
        fault(clauses + " ;mild", 70);
        fault(clauses + " mild", 70);
    }

    private static void noFaults() {
        fault("noun5;plain7", NONE);
        fault("  noun  5  ;  plain7  ", NONE);
        fault("noun 00", NONE);
        fault("noun1;change0 1 2", NONE);
        fault("realm", NONE);
        fault("realm;realm", NONE);
        fault("names;twice;swell;mild", NONE);
        AdjectiveCoupons x = C.told("noun 1");
        Checks.write(x, "change 0 1 2");
        C.due("fault(), a word of the text before", x.fault(), NONE);
        C.due("fault() again", x.fault(), NONE);
        C.due("count(2) behind fault()", x.count(2), 0);
        C.due("count(11) behind fault()", x.count(11), 12);
        x.erase();
        Checks.write(x, "poet 1;poet 1;poet 1;noun 1");
        C.due("fault(), three more", x.fault(), NONE);
        C.due("fault(), three more, again", x.fault(), NONE);
    }

    private static void realm() {
        AdjectiveCoupons x = C.told("noun 5;plain 7;ration 3;names;swell;poet 4", "colour 2;lover 1;twice", "change 2 3 1");
        C.due("realm(): words", x.count(0), 3);
        C.due("realm(): people", x.count(1), 2);
        C.due("realm(): changes", x.count(2), 1);
        C.due("realm(): ration", x.count(3), 3);
        C.due("realm(): rules", x.count(4), 7);
        C.due("realm(): halves", x.count(9), 12);
        C.due("realm(): loaves", x.count(10), 20);
        C.due("realm(): letters", x.count(11), 0);
        Checks.write(x, "noun 1;poet 99;mild");
        C.due("realm(), a fault", x.realm(), NOT);
        C.due("realm(), a fault: words", x.count(0), 3);
        C.due("realm(), a fault: letters", x.count(11), 19);
        x.erase();
        Checks.write(x, "mild;names");
        C.due("realm(), mild first", x.realm(), 2);
        C.due("realm(), mild first: rules", x.count(4), 1);
        Checks.write(x, "ration 20;mild;ration 1");
        C.due("realm(), in their order", x.realm(), 3);
        C.due("realm(), in their order: ration", x.count(3), 1);
        C.due("realm(), in their order: rules", x.count(4), 0);
        C.due("realm(), in their order: halves", x.one(0, 1), 2);
        Checks.write(x, "realm");
        C.due("realm(), realm", x.realm(), 1);
        for (int i = 0; i < 12; i++) {
            C.due("realm(), realm: count(" + i + ")", x.count(i), i == 3 ? 9 : 0);
        }
        Checks.write(x, "names;ration 4;swell;noun 1;change 0 0 0;realm");
        C.due("realm(), realm last", x.realm(), 6);
        for (int i = 0; i < 12; i++) {
            C.due("realm(), realm last: count(" + i + ")", x.count(i), i == 3 ? 9 : 0);
        }
        Checks.write(x, "noun 1;realm;plain 2");
        C.due("realm(), realm between", x.realm(), 3);
        C.due("realm(), realm between: words", x.count(0), 1);
        C.due("realm(), realm between: kind", x.word(0, 0), 1);
    }

    private static void realmBeginsAnew() {
        AdjectiveCoupons x = C.told("noun 5;plain 7;lover 1;citizen 2");
        Checks.draft(x, "10", "0");
        x.say(0);
        x.say(0);
        x.trade(1, 0, 18, 0);
        Checks.lay(x, "1");
        C.due("say(1), fined", x.say(1), 0);
        x.week();
        x.trade(0, 1, 1, 1);
        x.owe(0, 1, 9);
        x.keep(0);
        Checks.write(x, "nou");
        C.due("realm(), fault", x.realm(), NOT);
        C.due("count(5), fault", x.count(5), 1);
        C.due("count(6), fault", x.count(6), 1);
        C.due("count(7), fault", x.count(7), 2);
        C.due("count(8), fault", x.count(8), 7);
        x.write('n');
        x.write('1');
        C.due("realm()", x.realm(), 1);
        C.due("anew: week", x.count(5), 0);
        C.due("anew: line", x.count(6), 0);
        C.due("anew: drafts", x.count(7), 0);
        C.due("anew: undo()", x.undo(), NOT);
        C.due("anew: back(0)", x.back(0), NOT);
        C.due("anew: halves", x.one(0, 1), 18);
        C.due("anew: loaves", x.one(0, 2), 10);
        C.due("anew: fined", x.one(1, 3), 0);
        C.due("anew: worth", x.one(0, 4), 0);
        C.due("anew: words said", x.one(0, 5), 0);
        C.due("anew: debt", x.owes(0, 1), 0);
        C.due("anew: word said", x.word(0, 3), 0);
        C.due("anew: words", x.count(0), 3);
    }

    private static void word() {
        AdjectiveCoupons x = C.told("half 30;name 0;change 0 2 1;poet 1;lover 1");
        C.due("word(0, 0)", x.word(0, 0), 3);
        C.due("word(0, 1)", x.word(0, 1), 30);
        C.due("word(0, 2)", x.word(0, 2), 3);
        C.due("word(1, 0)", x.word(1, 0), 4);
        C.due("word(1, 1)", x.word(1, 1), 0);
        Checks.lay(x, "010");
        x.say(0);
        x.say(1);
        C.due("word(0, 3)", x.word(0, 3), 4);
        C.due("word(1, 3)", x.word(1, 3), 2);
        x.week();
        C.due("word(0, 0), week 1", x.word(0, 0), 2);
        C.due("word(0, 2), week 1", x.word(0, 2), 3);
        C.due("word(2, 0)", x.word(2, 0), UNKNOWN);
        C.due("word(-1, 0)", x.word(-1, 0), UNKNOWN);
        C.due("word(2, 9)", x.word(2, 9), UNKNOWN);
        C.due("word(0, 4)", x.word(0, 4), OUTSIDE);
        C.due("word(0, -1)", x.word(0, -1), OUTSIDE);
    }

    private static void changes() {
        AdjectiveCoupons x = C.told("noun 1;noun 2;change 0 1 3;change 0 2 1;change 0 3 1;change 0 4 3;change 1 1 0", "change 0 2 2");
        int[] kinds = {0, 3, 2, 4, 4};
        for (int week = 0; week < kinds.length; week++) {
            C.due("changes: kind in week " + week, x.word(0, 0), kinds[week]);
            C.due("changes: the other's in week " + week, x.word(1, 0), 1);
            C.due("changes: the other's as it came", x.word(1, 2), 0);
            x.week();
        }
        x.undo();
        x.undo();
        x.undo();
        C.due("changes: kind, undone", x.word(0, 0), 2);
    }

    private static void one() {
        AdjectiveCoupons x = C.told("plain 4;noun 3;citizen 0;lover 20;critic 5;poet 7;ration 2");
        int[] wants = {0, 20, 5, 7};
        for (int i = 0; i < 4; i++) {
            int[] due = {i, 4, 10, 0, 0, 0, wants[i]};
            for (int what = 0; what < due.length; what++) {
                C.due("one(" + i + ", " + what + ")", x.one(i, what), due[what]);
            }
        }
        Checks.lay(x, "001");
        C.due("say(0)", x.say(0), 1);
        C.due("say(0)", x.say(0), 0);
        int[] due = {0, 0, 10, 1, 11, 3, 0};
        for (int what = 0; what < due.length; what++) {
            C.due("one(0, " + what + "), said and fined", x.one(0, what), due[what]);
        }
        C.due("one(4, 0)", x.one(4, 0), UNKNOWN);
        C.due("one(-1, 0)", x.one(-1, 0), UNKNOWN);
        C.due("one(4, 7)", x.one(4, 7), UNKNOWN);
        C.due("one(0, 7)", x.one(0, 7), OUTSIDE);
        C.due("one(0, -1)", x.one(0, -1), OUTSIDE);
    }

    private static void as() {
        AdjectiveCoupons x = C.told("noun 1;colour 1;change 1 3 1;citizen 1;lover 1;critic 1;poet 1");
        Checks.lay(x, "1010");
        int[] price = {4, 4, 2, 1};
        boolean[][] such = {{true, true, false, false, false}, {true, true, true, false, false},
            {true, false, false, true, false}, {true, false, false, true, true}};
        for (int i = 0; i < 4; i++) {
            for (int kind = 0; kind < 5; kind++) {
                C.due("as(" + i + ", " + kind + ")", x.as(i, kind), such[i][kind] ? price[i] : NOT);
            }
        }
        C.due("as(0, 5)", x.as(0, 5), OUTSIDE);
        C.due("as(0, -1)", x.as(0, -1), OUTSIDE);
        C.due("as(4, 5)", x.as(4, 5), UNKNOWN);
        C.due("as(-1, 0)", x.as(-1, 0), UNKNOWN);
        x.week();
        C.due("as(2, 0), week 1", x.as(2, 0), 2);
        C.due("as(3, 4), week 1", x.as(3, 4), 2);
        x.wipe();
        C.due("as(3, 4), empty line", x.as(3, 4), 0);
    }
}
