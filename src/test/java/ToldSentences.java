import java.util.ArrayList;
import java.util.Collections;
import java.util.List;

/** What is told: the first part of the Terms, promises 1 to 8. */
final class ToldSentences {
    private static final int NONE = -1, UNKNOWN = -2, OUTSIDE = -3, NOT = -4, FULL = -5;
    private static final String TEN_WORDS =
        "noun 0;plain 1;colour 2;half 3;name 4;noun 5;plain 6;colour 7;half 8;name 30";
    private static final String FOUR_PEOPLE = "citizen 0;lover 1;critic 2;poet 20";
    private static final String SIX_CHANGES =
        "noun 1;change 0 1 1;change 0 2 2;change 0 3 3;change 0 4 4;change 0 0 5;change 0 2 6";
    private static final String[] KINDS_OF_WORDS = {"noun", "plain", "colour", "half", "name"};
    private static final String[] KINDS_OF_PEOPLE = {"citizen", "lover", "critic", "poet"};

    private final Sentences s;

    ToldSentences(Sentences s) {
        this.s = s;
    }

    void tell() {
        calls();
        words();
        changes();
        changesTogether();
        people();
        rationAndLaw();
        rowOfLetters();
        clauses();
        clausesOneByOne();
        whatClausesDo();
        noRoom();
        change();
        wordsSuchAsThereAre();
        tokens();
        blanks();
        faults();
        order();
        behindThem();
        newObject();
        write();
        eraseAndFault();
        realm();
        word();
        one();
        as();
    }

    private void calls() {
        s.terms("An object is used for at most 512 calls after it has been made; what later calls answer is free.");
        AdjectiveCoupons x = new AdjectiveCoupons();
        for (int week = 1; week <= 511; week++) {
            s.due("week(), call " + week, x.week(), week);
        }
        s.due("count(5), call 512", x.count(5), 511);
    }

    private void words() {
        s.terms("WORDS are 0, 1 .. as they come,");
        AdjectiveCoupons x = Sentences.told("name 3", "noun 4;half 5");
        int[] kinds = {4, 0, 3};
        for (int word = 0; word < 3; word++) {
            s.due("word(" + word + ", 2)", x.word(word, 2), kinds[word]);
            s.due("word(" + word + ", 1)", x.word(word, 1), 3 + word);
        }
        s.terms("10 at most (none at first):");
        x = new AdjectiveCoupons();
        s.due("none: count(0)", x.count(0), 0);
        s.due("none: word(0, 0)", x.word(0, 0), UNKNOWN);
        x = s.sound(TEN_WORDS, 10);
        s.due("ten: count(0)", x.count(0), 10);
        s.due("ten: word(9, 0)", x.word(9, 0), 4);
        s.due("ten: word(9, 1)", x.word(9, 1), 30);
        s.due("ten: word(9, 2)", x.word(9, 2), 4);
        s.due("ten: word(10, 0)", x.word(10, 0), UNKNOWN);
        s.fault(TEN_WORDS + ";|noun 1");
        s.terms("of a KIND, 0 NOUN, 1 PLAIN, 2 COLOUR, 3 HALF, 4 NAME");
        for (int kind = 0; kind < KINDS_OF_WORDS.length; kind++) {
            x = Sentences.told(KINDS_OF_WORDS[kind] + " 1");
            s.due(KINDS_OF_WORDS[kind] + ": word(0, 0)", x.word(0, 0), kind);
            s.due(KINDS_OF_WORDS[kind] + ": word(0, 2)", x.word(0, 2), kind);
        }
        s.terms("(PLAIN, COLOUR and HALF ones are ADJECTIVES),");
        for (int kind = 0; kind < KINDS_OF_WORDS.length; kind++) {
            boolean adjective = kind >= 1 && kind <= 3;
            x = Sentences.laid(KINDS_OF_WORDS[kind] + " 1;citizen 1", "0");
            s.due(KINDS_OF_WORDS[kind] + ": good()", x.good(), adjective ? 0 : 1);
            s.due(KINDS_OF_WORDS[kind] + ": costs", x.cost(0, 0) > 0 ? 1 : 0, adjective ? 1 : 0);
        }
        s.terms("of a WORTH (0 .. 30).");
        for (String kind : KINDS_OF_WORDS) {
            s.due(kind + " 0", s.sound(kind + " 0", 1).word(0, 1), 0);
            s.due(kind + " 30", s.sound(kind + " 30", 1).word(0, 1), 30);
            s.fault(kind + " |31");
        }
    }

    private void changes() {
        s.terms("From a WEEK on a WORD may be of another KIND:");
        AdjectiveCoupons x = Sentences.laid("noun 1;noun 1;change 0 2 2;citizen 1", "0");
        int[] costs = {0, 0, 2, 2};
        for (int week = 0; week < costs.length; week++) {
            s.due("cost(0, " + week + ")", x.cost(0, week), costs[week]);
        }
        s.due("cost(0, 999)", x.cost(0, 999), 2);
        for (int week = 0; week < costs.length; week++) {
            s.due("word(0, 0) in week " + week, x.word(0, 0), costs[week]);
            s.due("word(1, 0) in week " + week, x.word(1, 0), 0);
            x.week();
        }
        s.terms("6 CHANGES at most (none at first);");
        s.due("none: count(2)", new AdjectiveCoupons().count(2), 0);
        x = s.sound(SIX_CHANGES, 7);
        s.due("six: count(2)", x.count(2), 6);
        int[] kinds = {0, 1, 2, 3, 4, 0, 2, 2};
        for (int week = 0; week < kinds.length; week++) {
            s.due("six: word(0, 0) in week " + week, x.word(0, 0), kinds[week]);
            x.week();
        }
        x = Sentences.told(SIX_CHANGES.replace("change 0 2 6", "plain 1") + ";change 1 3 0");
        s.due("the sixth, of another word", x.word(1, 0), 3);
        s.due("the sixth, of another word, not the first's", x.word(0, 0), 0);
        s.fault(SIX_CHANGES + ";|change 0 1 7");
    }

    private void changesTogether() {
        s.terms("of several of one WORD that of the latest WEEK that has come,");
        AdjectiveCoupons x = Sentences.told("noun 1;plain 1;change 0 4 3;change 1 2 2;change 0 3 1;change 0 1 9");
        int[] kinds = {0, 3, 3, 4, 4};
        for (int week = 0; week < kinds.length; week++) {
            s.due("word(0, 0) in week " + week, x.word(0, 0), kinds[week]);
            x.week();
        }
        s.terms("of like ones the one told last.");
        x = Sentences.told("noun 1;change 0 1 1;change 0 4 1;change 0 2 0;change 0 3 0", "change 0 2 1");
        s.due("in week 0, the second of two", x.word(0, 0), 3);
        x.week();
        s.due("in week 1, the one of the later text", x.word(0, 0), 2);
    }

    private void people() {
        s.terms("PEOPLE are 0, 1 .. as they come,");
        AdjectiveCoupons x = Sentences.told("poet 3", "lover 4;critic 5");
        int[] kinds = {3, 1, 2};
        for (int one = 0; one < 3; one++) {
            s.due("one(" + one + ", 0)", x.one(one, 0), kinds[one]);
            s.due("one(" + one + ", 6)", x.one(one, 6), 3 + one);
        }
        s.terms("4 at most (none at first):");
        x = new AdjectiveCoupons();
        s.due("none: count(1)", x.count(1), 0);
        s.due("none: one(0, 0)", x.one(0, 0), UNKNOWN);
        x = s.sound(FOUR_PEOPLE, 4);
        s.due("four: count(1)", x.count(1), 4);
        s.due("four: one(3, 0)", x.one(3, 0), 3);
        s.due("four: one(3, 6)", x.one(3, 6), 20);
        s.due("four: one(4, 0)", x.one(4, 0), UNKNOWN);
        s.fault(FOUR_PEOPLE + ";|poet 1");
        s.terms("of a KIND, 0 CITIZEN, 1 LOVER, 2 CRITIC, 3 POET,");
        for (int kind = 0; kind < KINDS_OF_PEOPLE.length; kind++) {
            s.due(KINDS_OF_PEOPLE[kind], Sentences.told(KINDS_OF_PEOPLE[kind] + " 1").one(0, 0), kind);
        }
        s.terms("who give as many loaves of BREAD for a HALF COUPON as they WANT it (0 .. 20).");
        for (String kind : KINDS_OF_PEOPLE) {
            s.due(kind + " 0", s.sound(kind + " 0", 1).one(0, 6), 0);
            s.due(kind + " 20", s.sound(kind + " 20", 1).one(0, 6), 20);
            s.fault(kind + " |21");
        }
    }

    private void rationAndLaw() {
        s.terms("RATION is 0 .. 20 COUPONS (9 at first).");
        s.due("at first", new AdjectiveCoupons().count(3), 9);
        s.due("at first, of one", Sentences.told("citizen 1").one(0, 1), 18);
        AdjectiveCoupons x = s.sound("ration 0;citizen 1", 2);
        s.due("ration 0", x.count(3), 0);
        s.due("ration 0, of one", x.one(0, 1), 0);
        x = s.sound("ration 20;citizen 1", 2);
        s.due("ration 20", x.count(3), 20);
        s.due("ration 20, of one", x.one(0, 1), 40);
        s.fault("ration |21");
        s.terms("LAW is a set of RULES (none at first): 1 NAMES, 2 TWICE, 4 SWELL.");
        s.due("at first", new AdjectiveCoupons().count(4), 0);
        s.due("names", Sentences.told("names").count(4), 1);
        s.due("twice", Sentences.told("twice").count(4), 2);
        s.due("swell", Sentences.told("swell").count(4), 4);
        s.due("a set: one told twice", Sentences.told("twice;twice").count(4), 2);
        s.due("a set: one told in two texts", Sentences.told("names;swell", "swell").count(4), 5);
        s.due("all", Sentences.told("swell;twice", "names").count(4), 7);
    }

    private void rowOfLetters() {
        s.terms("THE TEXT is a row of letters, 160 at most:");
        AdjectiveCoupons x = s.sound(" ".repeat(153) + "noun 12", 1);
        s.due("the 160th letter is read", x.word(0, 1), 12);
        s.fault(" ".repeat(156) + "noun|");
        s.fault("mild" + " ".repeat(155) + ";|");
        x = new AdjectiveCoupons();
        for (int i = 1; i <= 160; i++) {
            s.due("write(32), letter " + i, x.write(32), i);
        }
        s.due("write(32), letter 161", x.write(32), FULL);
    }

    private static String milds(int n) {
        return String.join(";", Collections.nCopies(n, "mild"));
    }

    private void clauses() {
        s.terms("CLAUSES with ; between, 1 to 14");
        s.sound("mild", 1);
        s.sound("mild;mild", 2);
        s.sound(milds(13), 13);
        s.sound(milds(14), 14);
        s.fault("mild |mild");
        s.fault("mild;|;mild");
        s.fault("|;mild");
        s.fault("mild|,mild");
        s.terms("(an empty TEXT ends too soon;");
        s.fault("|");
        s.fault(" |");
        s.fault(" ".repeat(160) + "|");
        s.terms("behind the 14th no ; can stand);");
        s.fault(milds(14) + "|;");
        s.fault(milds(14) + " |;mild");
        s.fault(milds(14) + "|;" + milds(2));
        s.sound(milds(14) + " ", 14);
    }

    private void clausesOneByOne() {
        s.terms("each is one of: realm. noun V. plain V. colour V. half V. name V. change I K W. citizen B. lover B. "
            + "critic B. poet B. ration R. names. twice. swell. mild.");
        List<String> all = new ArrayList<>(List.of("realm", "change 0 1 2", "ration 3", "names", "twice", "swell", "mild"));
        for (String kind : KINDS_OF_WORDS) {
            all.add(kind + " 4");
        }
        for (String kind : KINDS_OF_PEOPLE) {
            all.add(kind + " 5");
        }
        s.due("clauses there are", all.size(), 16);
        for (String clause : all) {
            int end = clause.contains(" ") ? clause.indexOf(' ') : clause.length();
            String word = clause.substring(0, end);
            s.sound("noun 1;" + clause, 2);
            s.fault("noun 1;" + clause + " |6");
            s.fault("noun 1;" + clause + " |mild");
            if (!clause.equals("names")) {
                s.fault("noun 1;|" + word.substring(0, end - 1) + clause.substring(end));
            }
            s.fault("noun 1;|" + word.substring(1) + clause.substring(end));
            s.fault("noun 1;|" + word + "q" + clause.substring(end));
            s.fault("noun 1;|" + word + word + clause.substring(end));
            s.fault("noun 1;|" + word.substring(0, 1) + clause.substring(end));
            if (clause.contains(" ")) {
                s.fault("noun 1;" + clause.substring(0, clause.lastIndexOf(' ')) + "|");
                s.fault("noun 1;" + word + " |mild");
                s.fault("noun 1;" + word + "|;mild");
            }
        }
        for (String word : new String[] {"one", "word", "people", "hole", "line", "week", "v"}) {
            s.fault("noun 1;|" + word + " 1");
        }
        s.terms("(As written here, without points;");
        s.fault("mild|.");
        s.fault("noun 4|.");
        s.fault("|Mild");
        s.fault("|mILD");
        s.fault("|MILD");
        s.fault("noun |V");
        s.terms("V the WORTH, B how much one WANTS;");
        s.due("noun 7", Sentences.told("noun 7").word(0, 1), 7);
        s.due("citizen 8", Sentences.told("citizen 8").one(0, 6), 8);
    }

    private void whatClausesDo() {
        s.terms("realm: all as at first;");
        s.like("realm", Sentences.told(SIX_CHANGES + ";swell;ration 3", FOUR_PEOPLE, "realm"), new AdjectiveCoupons());
        s.like("realm last", Sentences.told(SIX_CHANGES + ";names;realm"), new AdjectiveCoupons());
        s.like("realm first", Sentences.told("twice;ration 3;noun 9;change 0 1 1", "realm;plain 3;poet 2"),
            Sentences.told("plain 3;poet 2"));
        s.like("realm twice", Sentences.told("noun 1", "realm;noun 2;realm;noun 3"), Sentences.told("noun 3"));
        s.terms("noun ..: a WORD more, citizen ..: one of PEOPLE more;");
        AdjectiveCoupons x = new AdjectiveCoupons();
        int told = 0;
        for (String kind : KINDS_OF_WORDS) {
            Checks.write(x, kind + " 1");
            x.realm();
            told++;
            s.due(kind + ": count(0)", x.count(0), told);
            s.due(kind + ": count(1)", x.count(1), 0);
        }
        told = 0;
        for (String kind : KINDS_OF_PEOPLE) {
            Checks.write(x, kind + " 1");
            x.realm();
            told++;
            s.due(kind + ": count(0)", x.count(0), KINDS_OF_WORDS.length);
            s.due(kind + ": count(1)", x.count(1), told);
        }
    }

    private void noRoom() {
        s.terms("an eleventh, a fifth, a seventh CHANGE cannot stand there (at its word);");
        for (String kind : KINDS_OF_WORDS) {
            s.fault(TEN_WORDS + ";|" + kind + " 1");
            s.faultBehind(TEN_WORDS, "mild;|" + kind + " 99");
            s.faultBehind(TEN_WORDS, "|" + kind);
        }
        for (String kind : KINDS_OF_PEOPLE) {
            s.fault(FOUR_PEOPLE + ";|" + kind + " 1");
            s.faultBehind(FOUR_PEOPLE, "mild;|" + kind + " 99");
            s.faultBehind(FOUR_PEOPLE, "|" + kind);
        }
        s.fault(SIX_CHANGES + ";|change 0 1 1");
        s.faultBehind(SIX_CHANGES, "|change 0 1 1");
        s.faultBehind(SIX_CHANGES, "mild;|change 9");
        s.like("the rest can, behind all words", Sentences.told(TEN_WORDS, FOUR_PEOPLE + ";change 9 1 1;swell"),
            Sentences.told(TEN_WORDS, FOUR_PEOPLE, "change 9 1 1", "swell"));
        s.like("an eleventh behind realm", Sentences.told(TEN_WORDS, "realm;noun 1"), Sentences.told("noun 1"));
        s.like("a fifth behind realm", Sentences.told(FOUR_PEOPLE, "realm;poet 1"), Sentences.told("poet 1"));
        s.like("a seventh behind realm", Sentences.told(SIX_CHANGES, "realm;noun 1;change 0 1 1"),
            Sentences.told("noun 1;change 0 1 1"));
    }

    private void change() {
        s.terms("change: WORD I is of KIND K (0 .. 4) from WEEK W (0 .. 99) on;");
        for (int kind = 0; kind <= 4; kind++) {
            AdjectiveCoupons x = s.sound("name 1;name 1;change 1 " + kind + " 0", 3);
            s.due("kind " + kind + " from week 0 on", x.word(1, 0), kind);
            s.due("kind " + kind + ", not the other's", x.word(0, 0), 4);
        }
        s.fault("noun 1;change 0 |5 0");
        s.fault("noun 1;change 0 |9 0");
        AdjectiveCoupons x = s.sound("noun 1;citizen 1;change 0 1 99", 3);
        Checks.lay(x, "0");
        s.due("from week 99 on: cost(0, 98)", x.cost(0, 98), 0);
        s.due("from week 99 on: cost(0, 99)", x.cost(0, 99), 2);
        s.due("from week 99 on: cost(0, 100)", x.cost(0, 100), 2);
        s.fault("noun 1;change 0 0 |100");
        s.terms("mild: no RULES;");
        s.due("mild", Sentences.told("names;twice;swell", "mild").count(4), 0);
        s.due("mild, no rules ahead", Sentences.told("mild").count(4), 0);
        s.due("mild, between", Sentences.told("names;mild;swell").count(4), 4);
    }

    private void wordsSuchAsThereAre() {
        s.terms("WORDS such as there are behind the CLAUSES ahead;");
        s.fault("change |0 0 0");
        s.sound("noun 1;change 0 0 0", 2);
        s.fault("noun 1;change |1 0 0");
        s.fault("noun 1;change |1 0 0;noun 1");
        s.sound("noun 1;noun 1;change 1 0 0", 3);
        s.sound(TEN_WORDS + ";change 9 0 0", 11);
        s.fault(TEN_WORDS + ";change |10 0 0");
        s.fault("noun 1;realm;change |0 0 0");
        s.faultBehind("noun 1", "realm;change |0 0 0");
        s.faultBehind("noun 1", "change |1 0 0");
        s.faultBehind("noun 1", "plain 1;change |2 0 0");
        s.like("a word of the text ahead", Sentences.told("noun 1", "change 0 1 0"),
            Sentences.told("noun 1;change 0 1 0"));
        s.like("a word of this text", Sentences.told("noun 1", "plain 1;change 1 2 0"),
            Sentences.told("noun 1;plain 1;change 1 2 0"));
    }

    private void tokens() {
        s.terms("small letters a .. z,");
        s.fault("|milda");
        s.fault("|mildz");
        s.fault("mild|`");
        s.fault("mild|{");
        s.fault("mild|A");
        s.fault("mild|\u00e9");
        s.terms("numbers of 1 or 2 digits,");
        s.due("noun 0", s.sound("noun 0", 1).word(0, 1), 0);
        s.due("noun 9", s.sound("noun 9", 1).word(0, 1), 9);
        s.due("noun 09", s.sound("noun 09", 1).word(0, 1), 9);
        s.due("noun 00", s.sound("noun 00", 1).word(0, 1), 0);
        s.due("noun 10", s.sound("noun 10", 1).word(0, 1), 10);
        s.fault("noun |000");
        s.fault("noun |009");
        s.fault("noun |100");
        s.fault("noun |0000000001");
        s.fault("noun |4294967296");
        s.fault("noun 1|/");
        s.fault("noun 1|:");
        s.fault("noun |/");
        s.fault("noun |:");
        s.fault("noun |-1");
        s.fault("noun |+1");
    }

    private void blanks() {
        s.terms("blanks (32) may stand ahead of, between and behind TOKENS,");
        AdjectiveCoupons x = s.sound("   noun   5   ;   change   0   1   2   ;   mild   ", 3);
        s.due("noun 5", x.word(0, 1), 5);
        s.due("change 0 1 2", x.count(2), 1);
        s.fault("|mi ld");
        s.fault("noun 1 |0");
        for (char sign : new char[] {0, 9, 10, 13, 31, 33, 127, 160, 255}) {
            s.fault("mild|" + sign);
            s.fault("|" + sign + "mild");
            s.fault("noun|" + sign + "1");
        }
        s.terms("none is needed but between two words, two numbers.)");
        s.sound("noun1;change0 1 2;mild;citizen5", 4);
        s.fault("|nounplain1");
        s.fault("|namestwice");
        s.fault("names |twice");
        s.fault("noun1;change0 02|");
        s.fault("noun1;change0 |123");
        s.fault("noun1;change|01 2");
        s.fault("noun1;change0 1 2|a");
    }

    private void faults() {
        s.terms("A FAULT is at the first TOKEN (a row of small letters, a row of digits, any other letter) that cannot "
            + "stand there");
        s.fault("noun |31;poet 99");
        s.fault("|nown 31;poet 99");
        s.fault("noun 30;poet |99;nown");
        s.fault("|abcdef");
        s.fault("  |77");
        s.fault("mild |77");
        s.fault("mild|77");
        s.fault("mild|--");
        s.fault("mild;|\u00ff\u00ff");
        s.fault("noun |names");
        s.fault("noun |;");
        s.fault("noun 1|a");
        s.terms("(a number out of its bounds, of more digits, also),");
        s.fault("name |31;mild");
        s.fault("poet |21;mild");
        s.fault("ration |21;mild");
        s.fault("noun 1;change |1 0 0");
        s.fault("noun 1;change 0 |5 0");
        s.fault("noun 1;change 0 |10 0");
        s.fault("noun 1;change 0 0 |100");
        s.fault("noun |99");
        s.fault("noun |001;mild");
        s.fault("noun 1;change |000 0 0");
        s.fault("noun 1;change 0 |000 0");
        s.fault("noun 1;change 0 0 |000");
        s.fault("citizen |000");
        s.fault("ration |000");
        s.terms("or at the end, if it comes too soon.");
        s.fault("noun|");
        s.fault("noun   |");
        s.fault("mild;|");
        s.fault("mild; |");
        s.fault("citizen|");
        s.fault("ration |");
        s.fault("noun 1;change|");
        s.fault("noun 1;change 0|");
        s.fault("noun 1;change 0 1|");
        s.fault("noun 1;change 0 1  |");
    }

    private void order() {
        s.terms("CLAUSES are done in their order.");
        s.due("ration 3;ration 5", Sentences.told("ration 3;ration 5").count(3), 5);
        s.due("ration 4;realm", Sentences.told("ration 4;realm").count(3), 9);
        s.due("realm;ration 4", Sentences.told("realm;ration 4").count(3), 4);
        s.due("names;mild", Sentences.told("names;mild").count(4), 0);
        s.due("mild;names", Sentences.told("mild;names").count(4), 1);
        AdjectiveCoupons x = Sentences.told("noun 1;realm;plain 2;half 3");
        s.due("count(0)", x.count(0), 2);
        s.due("word(0, 0)", x.word(0, 0), 1);
        s.due("word(1, 0)", x.word(1, 0), 3);
    }

    private void behindThem() {
        s.terms("Behind them it is WEEK 0, all have RATION and 10 loaves, nobody owes, was FINED, said anything; "
            + "THE LINE is empty, there are no DRAFTS, nothing is kept or can be undone.");
        AdjectiveCoupons x = Sentences.worn();
        x.keep(1);
        Checks.write(x, "d;ration 3");
        s.due("realm()", x.realm(), 2);
        int[] counts = {5, 4, 1, 3, 0, 0, 0, 0, 0, 24, 40, 0};
        for (int what = 0; what < counts.length; what++) {
            s.due("count(" + what + ")", x.count(what), counts[what]);
        }
        int[] all = {0, 6, 10, 0, 0, 0, 0};
        for (int one = 0; one < 4; one++) {
            for (int what = 1; what < 6; what++) {
                s.due("one(" + one + ", " + what + ")", x.one(one, what), all[what]);
            }
            s.due("net(" + one + ")", x.net(one), 9999);
        }
        for (int word = 0; word < 5; word++) {
            s.due("word(" + word + ", 3)", x.word(word, 3), 0);
        }
        s.due("owes(0, 1)", x.owes(0, 1), 0);
        s.due("owes(3, 2)", x.owes(3, 2), 0);
        s.due("undo()", x.undo(), NOT);
        s.due("back(0)", x.back(0), NOT);
        s.due("back(1)", x.back(1), NOT);
    }

    private void newObject() {
        s.promise(1, "No WORDS, nobody.");
        AdjectiveCoupons x = new AdjectiveCoupons();
        int[] counts = {0, 0, 0, 9, 0, 0, 0, 0, 0, 0, 0, 0};
        for (int what = 0; what < counts.length; what++) {
            s.due("count(" + what + ")", x.count(what), counts[what]);
        }
        s.due("word(0, 0)", x.word(0, 0), UNKNOWN);
        s.due("put(0)", x.put(0), UNKNOWN);
        s.due("one(0, 0)", x.one(0, 0), UNKNOWN);
        s.due("say(0)", x.say(0), UNKNOWN);
        Sentences.worn();
        s.due("another object's words: count(0)", x.count(0), 0);
        s.due("another object's words: word(0, 0)", x.word(0, 0), UNKNOWN);
        s.due("another object's people: count(1)", x.count(1), 0);
        s.due("another object's weeks: count(5)", x.count(5), 0);
    }

    private static AdjectiveCoupons fullText() {
        AdjectiveCoupons x = new AdjectiveCoupons();
        Checks.write(x, "mild;" + " ".repeat(150) + "swell");
        return x;
    }

    private void write() {
        s.promise(2, "A letter (its number, 0 .. 255) more of THE TEXT: how many it has.");
        AdjectiveCoupons x = new AdjectiveCoupons();
        s.due("write(0)", x.write(0), 1);
        s.due("write(255)", x.write(255), 2);
        s.due("write(';')", x.write(';'), 3);
        s.due("count(11)", x.count(11), 3);
        s.promise(2, "OUTSIDE;");
        for (int letter : Sentences.beside(0, 255)) {
            s.unchanged("write(" + letter + ")", OUTSIDE, Sentences::worn, y -> y.write(letter));
            s.unchanged("write(" + letter + "), full", OUTSIDE, ToldSentences::fullText, y -> y.write(letter));
        }
        // Numbers whose last eight bits are a blank.
        s.unchanged("write(288)", OUTSIDE, Sentences::worn, y -> y.write(288));
        s.unchanged("write(-224)", OUTSIDE, Sentences::worn, y -> y.write(-224));
        s.promise(2, "FULL.");
        s.due("the 160th", fullText().count(11), 160);
        s.unchanged("write(97), the 161st", FULL, ToldSentences::fullText, y -> y.write('a'));
        s.unchanged("write(32), the 161st", FULL, ToldSentences::fullText, y -> y.write(' '));
        s.unchanged("write(0), the 161st", FULL, ToldSentences::fullText, y -> y.write(0));
    }

    private void eraseAndFault() {
        s.promise(3, "THE TEXT is empty: how many letters it had.");
        s.due("erase(), empty", new AdjectiveCoupons().erase(), 0);
        AdjectiveCoupons x = fullText();
        s.due("erase(), full", x.erase(), 160);
        s.due("count(11)", x.count(11), 0);
        s.due("erase() again", x.erase(), 0);
        s.due("write(97)", x.write('a'), 1);
        s.due("erase(), one letter", x.erase(), 1);
        Checks.write(x, "twice");
        s.due("realm(), what was erased is not read", x.realm(), 1);
        s.due("count(4)", x.count(4), 2);
        s.unchanged("erase(), empty", 0, () -> Sentences.told(Sentences.REALM), AdjectiveCoupons::erase);
        s.promise(4, "The place of the FAULT (the letter with which the TOKEN begins, or the length);");
        s.fault("|nouns 5");
        s.fault("noun |555");
        s.fault("noun 5;|");
        s.fault("|");
        s.promise(4, "NONE.");
        s.unchanged("fault(), none", NONE, ToldSentences::fullText, AdjectiveCoupons::fault);
        x = fullText();
        s.due("fault()", x.fault(), NONE);
        s.due("fault() again", x.fault(), NONE);
        s.due("realm()", x.realm(), 2);
        s.due("fault(), empty then", x.fault(), 0);
    }

    private void realm() {
        s.promise(5, "THE TEXT's CLAUSES are done, and it is empty then: how many there were.");
        AdjectiveCoupons x = s.sound("noun 1", 1);
        s.due("count(11)", x.count(11), 0);
        s.due("count(0)", x.count(0), 1);
        s.due("realm() again", x.realm(), NOT);
        x = s.sound("noun 1;noun 2;noun 3;noun 4;noun 5;noun 6;noun 7;poet 1;poet 2;poet 3;poet 4;names;twice;swell", 14);
        int[] counts = {7, 4, 0, 9, 7, 0, 0, 0, 0, 72, 40, 0};
        for (int what = 0; what < counts.length; what++) {
            s.due("14 clauses: count(" + what + ")", x.count(what), counts[what]);
        }
        s.promise(5, "NOT: it has a FAULT.");
        s.unchanged("realm(), too soon", NOT, Sentences::worn, AdjectiveCoupons::realm);
        s.unchanged("realm(), empty", NOT, () -> Sentences.told(Sentences.REALM), AdjectiveCoupons::realm);
        s.fault("realm;noun 1;noun |31");
        s.faultBehind(Sentences.REALM, "realm;|");
        s.faultBehind(Sentences.REALM, "noun 1;ration 3;twice;change 0 1 1;|lover 1");
    }

    private void word() {
        s.promise(6, "Of a WORD: KIND in this WEEK (what 0), WORTH (1), KIND as it came (2), how often all said it (3).");
        AdjectiveCoupons x = Sentences.told(TEN_WORDS, FOUR_PEOPLE + ";change 9 0 1");
        Checks.lay(x, "9900");
        for (int one = 0; one < 4; one++) {
            s.due("say(" + one + ")", x.say(one), 1);
        }
        Checks.lay(x, "9");
        s.due("say(3)", x.say(3), 1);
        int[] tenth = {4, 30, 4, 9};
        int[] first = {0, 0, 0, 8};
        for (int what = 0; what < 4; what++) {
            s.due("word(9, " + what + ")", x.word(9, what), tenth[what]);
            s.due("word(0, " + what + ")", x.word(0, what), first[what]);
        }
        s.due("word(8, 3), nobody said it", x.word(8, 3), 0);
        x.week();
        s.due("word(9, 0), week 1", x.word(9, 0), 0);
        s.due("word(9, 2), week 1", x.word(9, 2), 4);
        s.promise(6, "UNKNOWN;");
        for (int word : Sentences.beside(0, 4)) {
            s.unchanged("word(" + word + ", 0)", UNKNOWN, Sentences::worn, y -> y.word(word, 0));
            s.unchanged("word(" + word + ", 4)", UNKNOWN, Sentences::worn, y -> y.word(word, 4));
        }
        s.promise(6, "OUTSIDE.");
        for (int what : Sentences.beside(0, 3)) {
            s.unchanged("word(4, " + what + ")", OUTSIDE, Sentences::worn, y -> y.word(4, what));
        }
        s.unchanged("word(4, 3)", 0, Sentences::worn, y -> y.word(4, 3));
    }

    private void one() {
        s.promise(7, "Of one: KIND (what 0), HALVES (1), loaves (2), how often FINED (3), WORTH had (4), WORDS said (5), "
            + "what he WANTS (6).");
        AdjectiveCoupons x = Sentences.told(TEN_WORDS, FOUR_PEOPLE + ";ration 4");
        for (int one = 0; one < 4; one++) {
            int[] due = {one, 8, 10, 0, 0, 0, one == 3 ? 20 : one};
            for (int what = 0; what < due.length; what++) {
                s.due("one(" + one + ", " + what + ")", x.one(one, what), due[what]);
            }
        }
        Checks.lay(x, "19");
        s.due("say(3)", x.say(3), 1);
        s.due("say(3)", x.say(3), 1);
        x.trade(3, 0, 3, 2);
        s.due("say(3), fined", x.say(3), 0);
        s.due("say(3), fined again", x.say(3), 0);
        int[] due = {3, 0, 12, 2, 62, 4, 20};
        for (int what = 0; what < due.length; what++) {
            s.due("one(3, " + what + "), said, traded, fined", x.one(3, what), due[what]);
        }
        s.promise(7, "UNKNOWN;");
        for (int one : Sentences.beside(0, 3)) {
            s.unchanged("one(" + one + ", 0)", UNKNOWN, Sentences::worn, y -> y.one(one, 0));
            s.unchanged("one(" + one + ", 7)", UNKNOWN, Sentences::worn, y -> y.one(one, 7));
        }
        s.promise(7, "OUTSIDE.");
        for (int what : Sentences.beside(0, 6)) {
            s.unchanged("one(3, " + what + ")", OUTSIDE, Sentences::worn, y -> y.one(3, what));
        }
        s.unchanged("one(3, 6)", 9, Sentences::worn, y -> y.one(3, 6));
    }

    private void as() {
        s.promise(8, "One taken as a KIND (0 .. 4, as they are over one another): what THE LINE COSTS him now.");
        AdjectiveCoupons x = Sentences.laid("noun 1;colour 1;change 0 2 1;" + FOUR_PEOPLE, "1010");
        int[] costs = {4, 4, 2, 1};
        int[] kinds = {1, 2, 3, 4};
        for (int one = 0; one < 4; one++) {
            s.due("as(" + one + ", 0)", x.as(one, 0), costs[one]);
            s.due("as(" + one + ", his own)", x.as(one, kinds[one]), costs[one]);
        }
        x.week();
        s.due("as(0, 1), four colours now", x.as(0, 1), 8);
        s.due("as(3, 4), four colours now", x.as(3, 4), 3);
        x.wipe();
        s.due("as(3, 0), empty", x.as(3, 0), 0);
        s.promise(8, "UNKNOWN;");
        for (int one : Sentences.beside(0, 3)) {
            s.unchanged("as(" + one + ", 0)", UNKNOWN, Sentences::worn, y -> y.as(one, 0));
            s.unchanged("as(" + one + ", 5)", UNKNOWN, Sentences::worn, y -> y.as(one, 5));
        }
        s.promise(8, "OUTSIDE;");
        for (int kind : Sentences.beside(0, 4)) {
            s.unchanged("as(0, " + kind + ")", OUTSIDE, Sentences::worn, y -> y.as(0, kind));
            s.unchanged("as(3, " + kind + ")", OUTSIDE, Sentences::worn, y -> y.as(3, kind));
        }
        s.promise(8, "NOT: he is none such.");
        int[][] none = {{2, 3, 4}, {3, 4}, {1, 2, 4}, {1, 2}};
        for (int one = 0; one < 4; one++) {
            int who = one;
            for (int kind : none[one]) {
                s.unchanged("as(" + one + ", " + kind + ")", NOT, Sentences::worn, y -> y.as(who, kind));
            }
        }
    }
}
