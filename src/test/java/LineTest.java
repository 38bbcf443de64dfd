/** Promises 9 to 14: the line, what it costs, who says it. */
public final class LineTest {
    private static final int NONE = -1, UNKNOWN = -2, OUTSIDE = -3, NOT = -4, FULL = -5;
    private static final Checks C = new Checks();
    /** The words of most tests: 0 noun, 1 plain, 2 colour, 3 half, 4 name, 5 colour; one of each kind. */
    private static final String REALM =
        "noun 5;plain 7;colour 9;half 3;name 8;colour 2;citizen 1;lover 1;critic 1;poet 1";

    public static void main(String[] args) {
        put();
        wipeAndLine();
        prices();
        names();
        twice();
        swell();
        rulesTogether();
        critics();
        poets();
        weeks();
        good();
        say();
        C.finish();
    }

    private static void put() {
        AdjectiveCoupons x = C.told(REALM);
        C.due("put(6)", x.put(6), UNKNOWN);
        C.due("put(-2)", x.put(-2), UNKNOWN);
        for (int i = 1; i <= 8; i++) {
            C.due("put, the " + i + "th", x.put(i % 2 == 0 ? NONE : 5), i);
        }
        C.due("put(0), full", x.put(0), FULL);
        C.due("put(-1), full", x.put(NONE), FULL);
        C.due("put(6), full", x.put(6), UNKNOWN);
        C.due("count(6)", x.count(6), 8);
    }

    private static void wipeAndLine() {
        AdjectiveCoupons x = C.told(REALM);
        C.due("line(0), empty", x.line(0), OUTSIDE);
        C.due("wipe(), empty", x.wipe(), 0);
        Checks.lay(x, "5_0");
        C.due("line(0)", x.line(0), 5);
        C.due("line(1)", x.line(1), NONE);
        C.due("line(2)", x.line(2), 0);
        C.due("line(3)", x.line(3), OUTSIDE);
        C.due("line(-1)", x.line(-1), OUTSIDE);
        C.due("line(most)", x.line(Integer.MAX_VALUE), OUTSIDE);
        C.due("wipe()", x.wipe(), 3);
        C.due("line(0), wiped", x.line(0), OUTSIDE);
        C.due("wipe() again", x.wipe(), 0);
    }

    private static void price(AdjectiveCoupons x, String row, int... due) {
        Checks.lay(x, row);
        for (int one = 0; one < due.length; one++) {
            C.due("cost(" + one + ", 0) of " + row, x.cost(one, 0), due[one]);
        }
    }

    private static void prices() {
        AdjectiveCoupons x = C.told(REALM);
        price(x, "", 0, 0, 0, 0);
        price(x, "0", 0, 0, 0, 0);
        price(x, "4", 0);
        price(x, "1", 2, 2, 2, 2);
        price(x, "2", 2, 2, 1, 0);
        price(x, "3", 1, 1, 1, 1);
        price(x, "_", 0);
        price(x, "1_1_3_0", 5);
        price(x, "11111111", 16);
        price(x, "14", 2);
        C.due("cost(4, 0)", x.cost(4, 0), UNKNOWN);
        C.due("cost(-1, 0)", x.cost(-1, 0), UNKNOWN);
        C.due("cost(4, 1000)", x.cost(4, 1000), UNKNOWN);
        C.due("cost(0, -1)", x.cost(0, -1), OUTSIDE);
        C.due("cost(0, 1000)", x.cost(0, 1000), OUTSIDE);
        C.due("cost(0, 999)", x.cost(0, 999), 2);
    }

    private static void names() {
        AdjectiveCoupons x = C.told(REALM + ";names");
        price(x, "14", 0);
        price(x, "34", 0);
        price(x, "24", 0, 0, 0, 0);
        price(x, "124", 2);
        price(x, "1_4", 2);
        price(x, "104", 2);
        price(x, "41", 2);
        price(x, "1414", 0);
    }

    private static void twice() {
        AdjectiveCoupons x = C.told(REALM + ";twice");
        price(x, "11", 2);
        price(x, "1_1", 2);
        price(x, "1010", 2);
        price(x, "25", 4);
        price(x, "2525", 4);
        price(x, "1233", 5);
        price(x, "222", 2, 2, 1, 0);
        AdjectiveCoupons y = C.told("plain 1;half 1;citizen 1;twice");
        price(y, "0", 2);
        price(y, "_0", 2);
        price(y, "1010", 3);
    }

    private static void swell() {
        AdjectiveCoupons x = C.told(REALM + ";swell");
        price(x, "11", 4);
        price(x, "111", 7);
        price(x, "1111", 10);
        price(x, "113", 6);
        price(x, "1_11", 6);
        price(x, "11_1", 6);
        price(x, "1101", 6);
        price(x, "1141", 6);
        price(x, "331", 5);
        price(x, "222", 7, 7, 4, 3);
        price(x, "112", 7, 7, 6, 4);
    }

    private static void rulesTogether() {
        AdjectiveCoupons x = C.told(REALM + ";names;twice;swell");
        price(x, "1234", 4);
        price(x, "12541", 4);
        price(x, "1254", 4);
        price(x, "12530", 9);
        price(x, "111", 2);
        price(x, "1112", 5);
        price(x, "1241", 2);
        price(x, "1413", 1);
    }

    private static void critics() {
        AdjectiveCoupons x = C.told(REALM + ";names;twice");
        price(x, "25", 4, 4, 2);
        price(x, "22", 2, 2, 1);
        price(x, "24", 0, 0, 0);
        price(x, "254", 2, 2, 1);
        price(x, "131", 3, 3, 3);
    }

    private static void poets() {
        AdjectiveCoupons x = C.told(REALM + ";names;twice");
        C.due("poet: cost", x.cost(3, 0), 0);
        Checks.lay(x, "25");
        C.due("poet: two colours", x.cost(3, 0), 1);
        Checks.lay(x, "245");
        C.due("poet: the first that costs is the second", x.cost(3, 0), 0);
        Checks.lay(x, "2425");
        C.due("poet: the first that costs is the third", x.cost(3, 0), 0);
        Checks.lay(x, "1253");
        C.due("poet: plain and half as anybody's", x.cost(3, 0), 4);
    }

    private static void weeks() {
        AdjectiveCoupons x = C.told("noun 1;plain 2;change 0 2 2;change 1 4 3;names;poet 1;citizen 1");
        Checks.lay(x, "0101");
        int[] citizens = {4, 4, 8, 0};
        int[] poets = {4, 4, 5, 0};
        for (int week = 0; week < 4; week++) {
            C.due("cost(1, " + week + ")", x.cost(1, week), citizens[week]);
            C.due("cost(0, " + week + ")", x.cost(0, week), poets[week]);
        }
        C.due("cost(1, 999)", x.cost(1, 999), 0);
        x.week();
        x.week();
        C.due("cost(1, 0), week 2", x.cost(1, 0), 4);
        C.due("as(1, 0), week 2", x.as(1, 0), 8);
    }

    private static void goodness(AdjectiveCoupons x, String row, int due) {
        Checks.lay(x, row);
        C.due("good() of '" + row + "'", x.good(), due);
    }

    private static void good() {
        AdjectiveCoupons x = C.told(REALM + ";change 1 0 1");
        goodness(x, "", 0);
        goodness(x, "0", 1);
        goodness(x, "4", 1);
        goodness(x, "1", 0);
        goodness(x, "2", 0);
        goodness(x, "3", 0);
        goodness(x, "_", 0);
        goodness(x, "0_0", 0);
        goodness(x, "00", 0);
        goodness(x, "040", 1);
        goodness(x, "44", 1);
        goodness(x, "04", 1);
        goodness(x, "40", 1);
        goodness(x, "010", 1);
        goodness(x, "0103", 0);
        goodness(x, "40044", 0);
        x.week();
        goodness(x, "1", 1);
        goodness(x, "010", 0);
        goodness(x, "10", 0);
    }

    private static void say() {
        AdjectiveCoupons x = C.told(REALM + ";ration 2");
        C.due("say(0), empty", x.say(0), NOT);
        C.due("say(4), empty", x.say(4), UNKNOWN);
        C.due("say(-1)", x.say(-1), UNKNOWN);
        Checks.lay(x, "1_");
        C.due("say(0), a hole", x.say(0), NOT);
        C.due("count(8), refused", x.count(8), 0);
        Checks.lay(x, "11");
        C.due("say(0), all he has", x.say(0), 1);
        C.due("one(0, 1)", x.one(0, 1), 0);
        C.due("one(0, 4)", x.one(0, 4), 14);
        C.due("one(0, 5)", x.one(0, 5), 2);
        C.due("word(1, 3)", x.word(1, 3), 2);
        C.due("count(6), said", x.count(6), 2);
        Checks.lay(x, "0");
        C.due("say(0), for nothing", x.say(0), 1);
        Checks.lay(x, "3");
        C.due("say(0), none left", x.say(0), 0);
        C.due("one(0, 3)", x.one(0, 3), 1);
        C.due("one(0, 4), fined", x.one(0, 4), 19);
        C.due("one(0, 5), fined", x.one(0, 5), 3);
        C.due("word(3, 3), fined", x.word(3, 3), 0);
        C.due("count(8)", x.count(8), 3);
        Checks.lay(x, "111");
        C.due("say(1), too dear", x.say(1), 0);
        C.due("one(1, 1), fined", x.one(1, 1), 0);
        C.due("say(1), too dear again", x.say(1), 0);
        C.due("one(1, 3), fined twice", x.one(1, 3), 2);
        Checks.lay(x, "2525");
        C.due("say(2), a critic", x.say(2), 1);
        C.due("one(2, 1), a critic", x.one(2, 1), 0);
        C.due("say(3), a poet", x.say(3), 1);
        C.due("one(3, 1), a poet", x.one(3, 1), 1);
        C.due("one(3, 4), a poet", x.one(3, 4), 22);
    }
}
