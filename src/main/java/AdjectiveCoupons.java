/** A ration of adjectives: see ../shared/DOC.md, whose terms the names here follow. */
public final class AdjectiveCoupons {
    public static final int NONE = -1, UNKNOWN = -2, OUTSIDE = -3, NOT = -4, FULL = -5;

    private static final int NOUN = 0, PLAIN = 1, COLOUR = 2, HALF = 3, NAME = 4;
    private static final int CITIZEN = 0, LOVER = 1, CRITIC = 2, POET = 3;
    private static final int AS_ONE = 0, AS_CITIZEN = 1, AS_LOVER = 2, AS_CRITIC = 3, AS_POET = 4;
    private static final int NAMES = 1, TWICE = 2, SWELL = 4;

    private static final int MOST_WORDS = 10, MOST_WORTH = 30, MOST_CHANGES = 6, LAST_CHANGE = 99;
    private static final int MOST_PEOPLE = 4, MOST_WANTED = 20, FIRST_LOAVES = 10, MOST_LOAVES_GIVEN = 99;
    private static final int FIRST_RATION = 9, MOST_RATION = 20, MOST_HALVES = 60;
    private static final int MOST_OWED_AT_ONCE = 99, MOST_OWED = 999, LAST_WEEK = 999;
    private static final int MOST_LETTERS = 160, LAST_LETTER = 255, MOST_CLAUSES = 14;
    private static final int MOST_PLACES = 8, MOST_ORDERED = 6, MOST_ORDERS = 720;
    private static final int MOST_HOLES = 3, MOST_FILLINGS = 1000, MOST_ASKED = 99;
    private static final int MOST_DRAFTS = 6, MOST_UNDONE = 8, MOST_KEPT = 2, NET_SHIFT = 9999;

    /** What a clause is called: its number below is how many blanks stand ahead of it here. */
    private static final String CLAUSES =
        "realm noun plain colour half name change citizen lover critic poet ration names twice swell mild ";
    private static final int SAY_REALM = 0, SAY_NOUN = 1, SAY_NAME = 5, SAY_CHANGE = 6, SAY_CITIZEN = 7;
    private static final int SAY_POET = 10, SAY_RATION = 11, SAY_NAMES = 12, SAY_SWELL = 14;

    private final Text text = new Text();
    private final Told told = new Told();
    private final Told sketch = new Told();
    private final State now = new State();
    private final Past past = new Past();
    private final Line line = new Line();
    private final Prices prices = new Prices();
    private final Drafts drafts = new Drafts();
    private final Trials trials = new Trials();

    public AdjectiveCoupons() {
    }

    // ---- what is told

    public int write(int letter) {
        if (!isWithin(letter, 0, LAST_LETTER)) {
            return OUTSIDE;
        }
        return text.append(letter) ? text.length : FULL;
    }

    public int erase() {
        int had = text.length;
        text.length = 0;
        return had;
    }

    public int fault() {
        sketch.become(told);
        return text.read(sketch);
    }

    public int realm() {
        sketch.become(told);
        if (text.read(sketch) != NONE) {
            return NOT;
        }
        told.become(sketch);
        now.begin(told.people, 2 * told.ration);
        past.forgetAll();
        line.length = 0;
        drafts.size = 0;
        text.length = 0;
        return text.clauses;
    }

    public int word(int word, int what) {
        if (!isWord(word)) {
            return UNKNOWN;
        }
        switch (what) {
            case 0:
                return told.kindIn(word, now.week);
            case 1:
                return told.worths.at(word);
            case 2:
                return told.kinds.at(word);
            case 3:
                return now.timesSaidByAll(word);
            default:
                return OUTSIDE;
        }
    }

    public int one(int one, int what) {
        if (!isPerson(one)) {
            return UNKNOWN;
        }
        switch (what) {
            case 0:
                return told.kindOfOne(one);
            case 1:
                return now.halves.at(one);
            case 2:
                return now.loaves.at(one);
            case 3:
                return now.fines.at(one);
            case 4:
                return now.worths.at(one);
            case 5:
                return now.wordsSaid(one);
            case 6:
                return told.wants.at(one);
            default:
                return OUTSIDE;
        }
    }

    public int as(int one, int kind) {
        if (!isPerson(one)) {
            return UNKNOWN;
        }
        if (!isWithin(kind, AS_ONE, AS_POET)) {
            return OUTSIDE;
        }
        // Whatever he is taken as, he stays who he is: so the price is his own.
        return isSuch(told.kindOfOne(one), kind) ? priceFor(one, now.week) : NOT;
    }

    // ---- the line

    public int put(int word) {
        if (word != NONE && !isWord(word)) {
            return UNKNOWN;
        }
        return line.append(word) ? line.length : FULL;
    }

    public int wipe() {
        int had = line.length;
        line.length = 0;
        return had;
    }

    public int line(int i) {
        return isWithin(i, 0, line.length - 1) ? line.wordAt(i) : OUTSIDE;
    }

    public int cost(int one, int week) {
        if (!isPerson(one)) {
            return UNKNOWN;
        }
        return isWithin(week, 0, LAST_WEEK) ? priceFor(one, week) : OUTSIDE;
    }

    public int good() {
        prices.lookUp(told, now.week);
        return prices.isGood(line) ? 1 : 0;
    }

    public int say(int one) {
        if (!isPerson(one)) {
            return UNKNOWN;
        }
        if (!line.isSayable()) {
            return NOT;
        }
        past.remember(now);
        int price = priceFor(one, now.week);
        if (now.halves.at(one) < price) {
            now.fines.add(one, 1);
            now.halves.set(one, 0);
            return 0;
        }
        now.halves.add(one, -price);
        now.worths.add(one, told.worthOf(line));
        now.noteSaid(one, line);
        return 1;
    }

    // ---- weeks, trades, debts

    public int week() {
        if (now.week >= LAST_WEEK) {
            return FULL;
        }
        past.remember(now);
        now.week++;
        for (int i = 0; i < told.people; i++) {
            now.halves.set(i, halvesNextWeek(now.halves.at(i), told.kindOfOne(i), told.ration));
        }
        return now.week;
    }

    public int trade(int one, int other, int n, int bread) {
        if (!areTwo(one, other)) {
            return UNKNOWN;
        }
        if (!isWithin(n, 1, MOST_HALVES) || !isWithin(bread, 0, MOST_LOAVES_GIVEN)) {
            return OUTSIDE;
        }
        if (now.halves.at(one) < n || now.loaves.at(other) < bread) {
            return NOT;
        }
        if (now.halves.at(other) + n > MOST_HALVES) {
            return FULL;
        }
        past.remember(now);
        now.halves.add(one, -n);
        now.halves.add(other, n);
        now.loaves.add(other, -bread);
        now.loaves.add(one, bread);
        return now.halves.at(other);
    }

    public int owe(int one, int other, int n) {
        if (!areTwo(one, other)) {
            return UNKNOWN;
        }
        if (!isWithin(n, 1, MOST_OWED_AT_ONCE)) {
            return OUTSIDE;
        }
        int then = now.debt(one, other) + n;
        if (then > MOST_OWED) {
            return FULL;
        }
        past.remember(now);
        now.setDebt(one, other, then);
        return then;
    }

    public int owes(int one, int other) {
        return areTwo(one, other) ? now.debt(one, other) : UNKNOWN;
    }

    public int undo() {
        return past.recall(now) ? past.size : NOT;
    }

    public int keep(int k) {
        if (!isWithin(k, 0, MOST_KEPT - 1)) {
            return UNKNOWN;
        }
        past.store(k, now);
        return now.week;
    }

    public int back(int k) {
        if (!isWithin(k, 0, MOST_KEPT - 1)) {
            return UNKNOWN;
        }
        return past.fetch(k, now) ? now.week : NOT;
    }

    // ---- foretold

    public int cheapest(int i) {
        if (i < NONE) {
            return OUTSIDE;
        }
        if (!canBeOrdered()) {
            return NOT;
        }
        prices.lookUp(told, now.week);
        trials.tryOrders(line, prices);
        if (trials.least == NONE || i == NONE) {
            return trials.least;
        }
        return trials.best.wordAt(i);
    }

    public int loophole() {
        if (!canBeOrdered()) {
            return NOT;
        }
        prices.lookUp(told, now.week);
        trials.tryOrders(line, prices);
        return trials.least == NONE ? NONE : trials.most - trials.least;
    }

    public int leftOut(int c, int what) {
        if (!isWithin(c, 0, MOST_ASKED) || !isWithin(what, 0, 1)) {
            return OUTSIDE;
        }
        prices.lookUp(told, now.week);
        trials.tryOmissions(line, prices, c);
        return what == 0 ? trials.least : trials.set;
    }

    public int holes(int c, int i) {
        if (!isWithin(c, 0, MOST_ASKED) || i < NONE) {
            return OUTSIDE;
        }
        int holeCount = line.holeCount();
        if (holeCount > MOST_HOLES) {
            return NOT;
        }
        prices.lookUp(told, now.week);
        trials.tryFillings(line, prices, told.words, c);
        if (i == NONE) {
            return trials.ways;
        }
        return trials.ways > 0 && i < holeCount ? trials.best.wordAt(line.placeOfHole(i)) : NONE;
    }

    public int draft() {
        if (!line.isSayable()) {
            return NOT;
        }
        return drafts.append(line) ? drafts.size : FULL;
    }

    public int burn() {
        int had = drafts.size;
        drafts.size = 0;
        return had;
    }

    public int drafted(int draft, int one, int what) {
        if (!isWithin(draft, 0, drafts.size - 1) || !isPerson(one)) {
            return UNKNOWN;
        }
        Line chosen = drafts.at(draft);
        switch (what) {
            case 0:
                return chosen.length;
            case 1:
                prices.lookUp(told, now.week);
                return prices.priceOf(chosen, told.kindOfOne(one));
            case 2:
                return told.worthOf(chosen);
            default:
                return OUTSIDE;
        }
    }

    public int page(int h, int what) {
        if (!isWithin(h, 0, MOST_ASKED) || !isWithin(what, 0, 1)) {
            return OUTSIDE;
        }
        drafts.weigh(told);
        drafts.priceNow(told, prices, now.week);
        drafts.choosePage(h);
        return what == 0 ? drafts.mostWorth : drafts.chosen;
    }

    public int plan(int one, int what) {
        if (!isPerson(one)) {
            return UNKNOWN;
        }
        if (!isWithin(what, 0, 1)) {
            return OUTSIDE;
        }
        drafts.weigh(told);
        drafts.priceWeekByWeek(told, prices, now.week, told.kindOfOne(one));
        drafts.choosePlan(now.halves.at(one), told.kindOfOne(one), told.ration);
        return what == 0 ? drafts.mostWorth : drafts.chosen;
    }

    public int likeness(int one) {
        return isPerson(one) ? likenessTo(one) : UNKNOWN;
    }

    public int author() {
        if (line.length == line.holeCount()) {
            return NONE;
        }
        int author = NONE;
        int greatest = NONE;
        for (int i = 0; i < told.people; i++) {
            int his = likenessTo(i);
            if (his > greatest) {
                greatest = his;
                author = i;
            }
        }
        return author;
    }

    public int left(int what) {
        if (!isWithin(what, 0, 2)) {
            return OUTSIDE;
        }
        int pairs = 0;
        int firstGiver = NONE;
        int firstTaker = NONE;
        for (int a = 0; a < told.people; a++) {
            for (int b = 0; b < told.people; b++) {
                if (isTradeLeft(a, b)) {
                    firstGiver = pairs == 0 ? a : firstGiver;
                    firstTaker = pairs == 0 ? b : firstTaker;
                    pairs++;
                }
            }
        }
        if (what == 0) {
            return pairs;
        }
        return what == 1 ? firstGiver : firstTaker;
    }

    public int net(int one) {
        return isPerson(one) ? now.balance(one) + NET_SHIFT : UNKNOWN;
    }

    public int payments() {
        return trials.fewestPayments(now, told.people);
    }

    public int count(int what) {
        switch (what) {
            case 0:
                return told.words;
            case 1:
                return told.people;
            case 2:
                return told.changes;
            case 3:
                return told.ration;
            case 4:
                return told.rules;
            case 5:
                return now.week;
            case 6:
                return line.length;
            case 7:
                return drafts.size;
            case 8:
                return past.size;
            case 9:
                return now.halves.sum();
            case 10:
                return now.loaves.sum();
            case 11:
                return text.length;
            default:
                return OUTSIDE;
        }
    }

    // ---- what the calls share

    private static boolean isWithin(int n, int least, int most) {
        return n >= least && n <= most;
    }

    private static boolean isAdjective(int kind) {
        return kind == PLAIN || kind == COLOUR || kind == HALF;
    }

    private static boolean isIn(int set, int i) {
        return (set >> i & 1) == 1;
    }

    private static int halvesNextWeek(int halves, int kindOfOne, int ration) {
        int kept = kindOfOne == LOVER ? halves : 0;
        return Math.min(MOST_HALVES, kept + 2 * ration);
    }

    /** Kinds of people are numbered one way as they are told, another as they are over one another. */
    private static boolean isSuch(int kindOfOne, int such) {
        switch (such) {
            case AS_ONE:
                return true;
            case AS_CITIZEN:
                return kindOfOne == CITIZEN || kindOfOne == LOVER;
            case AS_LOVER:
                return kindOfOne == LOVER;
            case AS_CRITIC:
                return kindOfOne == CRITIC || kindOfOne == POET;
            default:
                return such == AS_POET && kindOfOne == POET;
        }
    }

    private boolean isWord(int word) {
        return isWithin(word, 0, told.words - 1);
    }

    private boolean isPerson(int one) {
        return isWithin(one, 0, told.people - 1);
    }

    private boolean areTwo(int one, int other) {
        return isPerson(one) && isPerson(other) && one != other;
    }

    private int priceFor(int one, int week) {
        prices.lookUp(told, week);
        return prices.priceOf(line, told.kindOfOne(one));
    }

    private boolean canBeOrdered() {
        return line.holeCount() == 0 && line.length <= MOST_ORDERED;
    }

    private int likenessTo(int one) {
        int all = now.wordsSaid(one) + told.words;
        int sum = 0;
        for (int i = 0; i < line.length; i++) {
            int word = line.wordAt(i);
            if (word != NONE && all > 0) {
                sum += 1000 * (now.timesSaid(one, word) + 1) / all;
            }
        }
        return sum;
    }

    private boolean isTradeLeft(int a, int b) {
        int bread = told.wants.at(a) + 1;
        return a != b && now.halves.at(a) > 0 && now.halves.at(b) < MOST_HALVES
            && now.loaves.at(b) >= bread && told.wants.at(b) > bread;
    }

    /** Numbers in places. A place outside reads as 0 and takes nothing: so no index can fail. */
    private static final class Row {
        private final int[] cells;

        Row(int size) {
            cells = new int[size < 0 ? 0 : size];
        }

        int at(int i) {
            return i >= 0 && i < cells.length ? cells[i] : 0;
        }

        void set(int i, int number) {
            if (i >= 0 && i < cells.length) {
                cells[i] = number;
            }
        }

        void add(int i, int more) {
            set(i, at(i) + more);
        }

        void clear() {
            for (int i = 0; i < cells.length; i++) {
                cells[i] = 0;
            }
        }

        void become(Row other) {
            for (int i = 0; i < cells.length && i < other.cells.length; i++) {
                cells[i] = other.cells[i];
            }
        }

        int sum() {
            int sum = 0;
            for (int i = 0; i < cells.length; i++) {
                sum += cells[i];
            }
            return sum;
        }
    }

    /** What texts tell: it stays the same from one text to the next. */
    private static final class Told {
        private int words;
        private int people;
        private int changes;
        private int ration = FIRST_RATION;
        private int rules;
        private final Row kinds = new Row(MOST_WORDS);
        private final Row worths = new Row(MOST_WORDS);
        private final Row peopleKinds = new Row(MOST_PEOPLE);
        private final Row wants = new Row(MOST_PEOPLE);
        private final Row changedWords = new Row(MOST_CHANGES);
        private final Row changedKinds = new Row(MOST_CHANGES);
        private final Row changeWeeks = new Row(MOST_CHANGES);

        void forgetAll() {
            words = 0;
            people = 0;
            changes = 0;
            ration = FIRST_RATION;
            rules = 0;
        }

        void become(Told other) {
            words = other.words;
            people = other.people;
            changes = other.changes;
            ration = other.ration;
            rules = other.rules;
            kinds.become(other.kinds);
            worths.become(other.worths);
            peopleKinds.become(other.peopleKinds);
            wants.become(other.wants);
            changedWords.become(other.changedWords);
            changedKinds.become(other.changedKinds);
            changeWeeks.become(other.changeWeeks);
        }

        boolean hasRoomFor(int clause) {
            if (isWithin(clause, SAY_NOUN, SAY_NAME)) {
                return words < MOST_WORDS;
            }
            if (isWithin(clause, SAY_CITIZEN, SAY_POET)) {
                return people < MOST_PEOPLE;
            }
            return clause != SAY_CHANGE || changes < MOST_CHANGES;
        }

        void hear(int clause, int number) {
            if (clause == SAY_REALM) {
                forgetAll();
            } else if (clause <= SAY_NAME) {
                kinds.set(words, clause - SAY_NOUN);
                worths.set(words, number);
                words++;
            } else if (clause <= SAY_POET) {
                peopleKinds.set(people, clause - SAY_CITIZEN);
                wants.set(people, number);
                people++;
            } else if (clause == SAY_RATION) {
                ration = number;
            } else if (clause <= SAY_SWELL) {
                rules |= NAMES << (clause - SAY_NAMES);
            } else {
                rules = 0;
            }
        }

        void hearChange(int word, int kind, int week) {
            changedWords.set(changes, word);
            changedKinds.set(changes, kind);
            changeWeeks.set(changes, week);
            changes++;
        }

        int kindOfOne(int one) {
            return peopleKinds.at(one);
        }

        int kindIn(int word, int week) {
            int kind = kinds.at(word);
            int latest = NONE;
            for (int i = 0; i < changes; i++) {
                int from = changeWeeks.at(i);
                // Not below the latest: of like weeks the one told last stands.
                if (changedWords.at(i) == word && from <= week && from >= latest) {
                    latest = from;
                    kind = changedKinds.at(i);
                }
            }
            return kind;
        }

        int worthOf(Line line) {
            int sum = 0;
            for (int i = 0; i < line.length; i++) {
                int word = line.wordAt(i);
                sum += word == NONE ? 0 : worths.at(word);
            }
            return sum;
        }
    }

    /** The text: it is read clause by clause into a sketch of what is told, as far as it can stand. */
    private static final class Text {
        private static final int OTHER = 0, SMALL = 1, DIGIT = 2;

        private final Row letters = new Row(MOST_LETTERS);
        private int length;
        private int clauses;
        private int start;
        private int end;

        boolean append(int letter) {
            if (length >= MOST_LETTERS) {
                return false;
            }
            letters.set(length, letter);
            length++;
            return true;
        }

        /** The place of the first fault, or NONE. */
        int read(Told sketch) {
            end = 0;
            step();
            for (clauses = 1; clauses <= MOST_CLAUSES; clauses++) {
                if (!readClause(sketch)) {
                    return start;
                }
                if (start >= length) {
                    return NONE;
                }
                if (clauses == MOST_CLAUSES || letters.at(start) != ';') {
                    return start;
                }
                step();
            }
            return start;
        }

        /** False: the token at which it stopped cannot stand there. */
        private boolean readClause(Told sketch) {
            int clause = clauseHere();
            if (clause == NONE || !sketch.hasRoomFor(clause)) {
                return false;
            }
            step();
            if (clause == SAY_CHANGE) {
                return readChange(sketch);
            }
            int number = 0;
            int most = mostIn(clause);
            if (most != NONE) {
                number = numberHere(most);
                if (number == NONE) {
                    return false;
                }
                step();
            }
            sketch.hear(clause, number);
            return true;
        }

        private boolean readChange(Told sketch) {
            int word = numberHere(sketch.words - 1);
            if (word == NONE) {
                return false;
            }
            step();
            int kind = numberHere(NAME);
            if (kind == NONE) {
                return false;
            }
            step();
            int week = numberHere(LAST_CHANGE);
            if (week == NONE) {
                return false;
            }
            step();
            sketch.hearChange(word, kind, week);
            return true;
        }

        /** The greatest number that may stand in a clause of one number; NONE: it has none. */
        private static int mostIn(int clause) {
            if (isWithin(clause, SAY_NOUN, SAY_NAME)) {
                return MOST_WORTH;
            }
            if (isWithin(clause, SAY_CITIZEN, SAY_POET)) {
                return MOST_WANTED;
            }
            return clause == SAY_RATION ? MOST_RATION : NONE;
        }

        private int clauseHere() {
            String names = CLAUSES;
            int clause = 0;
            int at = start;
            boolean same = true;
            for (int i = 0; i < names.length(); i++) {
                char sign = names.charAt(i);
                if (sign != ' ') {
                    same = same && at < end && letters.at(at) == sign;
                    at++;
                } else if (same && at == end) {
                    return clause;
                } else {
                    clause++;
                    at = start;
                    same = true;
                }
            }
            return NONE;
        }

        private int numberHere(int most) {
            int digits = end - start;
            if (digits < 1 || digits > 2 || sortOf(letters.at(start)) != DIGIT) {
                return NONE;
            }
            int number = letters.at(start) - '0';
            if (digits == 2) {
                number = 10 * number + letters.at(start + 1) - '0';
            }
            return number <= most ? number : NONE;
        }

        /** On to the next token; at the end it is an empty one, at the length. */
        private void step() {
            start = end;
            while (start < length && letters.at(start) == ' ') {
                start++;
            }
            end = start;
            if (start >= length) {
                return;
            }
            int sort = sortOf(letters.at(start));
            end++;
            while (sort != OTHER && end < length && sortOf(letters.at(end)) == sort) {
                end++;
            }
        }

        private static int sortOf(int letter) {
            if (isWithin(letter, 'a', 'z')) {
                return SMALL;
            }
            return isWithin(letter, '0', '9') ? DIGIT : OTHER;
        }
    }

    /** What becomes other between two texts: all of it is what can be undone and kept. */
    private static final class State {
        private int week;
        private final Row halves = new Row(MOST_PEOPLE);
        private final Row loaves = new Row(MOST_PEOPLE);
        private final Row fines = new Row(MOST_PEOPLE);
        private final Row worths = new Row(MOST_PEOPLE);
        private final Row said = new Row(MOST_PEOPLE * MOST_WORDS);
        private final Row debts = new Row(MOST_PEOPLE * MOST_PEOPLE);

        void begin(int people, int halvesEach) {
            week = 0;
            halves.clear();
            loaves.clear();
            fines.clear();
            worths.clear();
            said.clear();
            debts.clear();
            for (int i = 0; i < people; i++) {
                halves.set(i, halvesEach);
                loaves.set(i, FIRST_LOAVES);
            }
        }

        void become(State other) {
            week = other.week;
            halves.become(other.halves);
            loaves.become(other.loaves);
            fines.become(other.fines);
            worths.become(other.worths);
            said.become(other.said);
            debts.become(other.debts);
        }

        void noteSaid(int one, Line line) {
            for (int i = 0; i < line.length; i++) {
                said.add(one * MOST_WORDS + line.wordAt(i), 1);
            }
        }

        int timesSaid(int one, int word) {
            return said.at(one * MOST_WORDS + word);
        }

        int wordsSaid(int one) {
            int sum = 0;
            for (int word = 0; word < MOST_WORDS; word++) {
                sum += timesSaid(one, word);
            }
            return sum;
        }

        int timesSaidByAll(int word) {
            int sum = 0;
            for (int one = 0; one < MOST_PEOPLE; one++) {
                sum += timesSaid(one, word);
            }
            return sum;
        }

        int debt(int one, int other) {
            return debts.at(one * MOST_PEOPLE + other);
        }

        void setDebt(int one, int other, int much) {
            debts.set(one * MOST_PEOPLE + other, much);
        }

        int balance(int one) {
            int sum = 0;
            for (int other = 0; other < MOST_PEOPLE; other++) {
                sum += debt(other, one) - debt(one, other);
            }
            return sum;
        }
    }

    /** What was: the states that can come again. */
    private static final class Past {
        private final State[] undoable = new State[MOST_UNDONE];
        private final State[] kept = new State[MOST_KEPT];
        private int newest;
        private int size;
        private int keptSet;

        Past() {
            for (int i = 0; i < undoable.length; i++) {
                undoable[i] = new State();
            }
            for (int i = 0; i < kept.length; i++) {
                kept[i] = new State();
            }
        }

        void forgetAll() {
            size = 0;
            keptSet = 0;
        }

        void remember(State now) {
            newest = newest + 1 < MOST_UNDONE ? newest + 1 : 0;
            State free = pick(undoable, newest);
            if (free != null) {
                free.become(now);
            }
            size = Math.min(MOST_UNDONE, size + 1);
        }

        boolean recall(State now) {
            State last = pick(undoable, newest);
            if (size == 0 || last == null) {
                return false;
            }
            now.become(last);
            newest = newest > 0 ? newest - 1 : MOST_UNDONE - 1;
            size--;
            return true;
        }

        void store(int k, State now) {
            State free = pick(kept, k);
            if (free != null) {
                free.become(now);
                keptSet |= 1 << k;
            }
        }

        boolean fetch(int k, State now) {
            State then = pick(kept, k);
            if (then == null || !isIn(keptSet, k)) {
                return false;
            }
            now.become(then);
            size = 0;
            return true;
        }

        private static State pick(State[] states, int i) {
            return i >= 0 && i < states.length ? states[i] : null;
        }
    }

    /** A row of words and holes (NONE). */
    private static final class Line {
        private final Row words = new Row(MOST_PLACES);
        private int length;

        boolean append(int word) {
            if (length >= MOST_PLACES) {
                return false;
            }
            words.set(length, word);
            length++;
            return true;
        }

        void become(Line other) {
            words.become(other.words);
            length = other.length;
        }

        int wordAt(int i) {
            return i >= 0 && i < length ? words.at(i) : NONE;
        }

        void change(int i, int word) {
            words.set(i, word);
        }

        int holeCount() {
            int holes = 0;
            for (int i = 0; i < length; i++) {
                holes += words.at(i) == NONE ? 1 : 0;
            }
            return holes;
        }

        int placeOfHole(int hole) {
            int ahead = 0;
            for (int i = 0; i < length; i++) {
                if (words.at(i) == NONE) {
                    if (ahead == hole) {
                        return i;
                    }
                    ahead++;
                }
            }
            return NONE;
        }

        boolean isSayable() {
            return length > 0 && holeCount() == 0;
        }

        void sort() {
            for (int i = 1; i < length; i++) {
                for (int j = i; j > 0 && words.at(j - 1) > words.at(j); j--) {
                    swap(j - 1, j);
                }
            }
        }

        /** On to the next order by words, like words never swapped; false: it was the last. */
        boolean nextOrder() {
            int rise = length - 2;
            while (rise >= 0 && words.at(rise) >= words.at(rise + 1)) {
                rise--;
            }
            if (rise < 0) {
                return false;
            }
            int above = length - 1;
            while (above > rise + 1 && words.at(above) <= words.at(rise)) {
                above--;
            }
            swap(rise, above);
            for (int i = rise + 1, j = length - 1; i < j; i++, j--) {
                swap(i, j);
            }
            return true;
        }

        private void swap(int i, int j) {
            int word = words.at(i);
            words.set(i, words.at(j));
            words.set(j, word);
        }
    }

    /** The kinds of one week, looked up once for all the lines that a call compares. */
    private static final class Prices {
        private final Row kinds = new Row(MOST_WORDS);
        private int rules;

        void lookUp(Told told, int week) {
            rules = told.rules;
            for (int word = 0; word < told.words; word++) {
                kinds.set(word, told.kindIn(word, week));
            }
        }

        private int kindAt(Line line, int i) {
            int word = line.wordAt(i);
            return word == NONE ? NONE : kinds.at(word);
        }

        boolean isGood(Line line) {
            int ahead = NONE;
            for (int i = 0; i < line.length; i++) {
                int kind = kindAt(line, i);
                if (kind == NONE || kind == NOUN && ahead == NOUN) {
                    return false;
                }
                ahead = kind;
            }
            return line.length > 0 && !isAdjective(ahead);
        }

        int priceOf(Line line, int kindOfOne) {
            int sum = 0;
            int seen = 0;
            int adjectivesAhead = 0;
            boolean isFirstColour = true;
            int next = kindAt(line, 0);
            for (int i = 0; i < line.length; i++) {
                int word = line.wordAt(i);
                int kind = next;
                next = kindAt(line, i + 1);
                if (isAdjective(kind)) {
                    int price = isFree(next, isIn(seen, word)) ? 0 : priceOfOne(kind, adjectivesAhead);
                    if (kind == COLOUR && price > 0) {
                        price -= letOff(kindOfOne, isFirstColour, price);
                        isFirstColour = false;
                    }
                    sum += price;
                    adjectivesAhead++;
                } else {
                    adjectivesAhead = 0;
                }
                seen |= word == NONE ? 0 : 1 << word;
            }
            return sum;
        }

        private boolean isFree(int next, boolean wasAhead) {
            return next == NAME && (rules & NAMES) != 0 || wasAhead && (rules & TWICE) != 0;
        }

        private int priceOfOne(int kind, int adjectivesAhead) {
            int swollen = (rules & SWELL) != 0 && adjectivesAhead >= 2 ? 1 : 0;
            return (kind == HALF ? 1 : 2) + swollen;
        }

        private static int letOff(int kindOfOne, boolean isFirstColour, int price) {
            if (kindOfOne == POET) {
                return isFirstColour ? price : 1;
            }
            return kindOfOne == CRITIC ? 1 : 0;
        }
    }

    /** The drafts; and of all sets of them the one that a page or a plan takes. */
    private static final class Drafts {
        private final Line[] lines = new Line[MOST_DRAFTS];
        private final Line blank = new Line();
        private final Row dues = new Row(MOST_DRAFTS);
        private final Row worths = new Row(MOST_DRAFTS);
        private int size;
        private int mostWorth;
        private int chosen;

        Drafts() {
            for (int i = 0; i < lines.length; i++) {
                lines[i] = new Line();
            }
        }

        boolean append(Line line) {
            if (size >= MOST_DRAFTS) {
                return false;
            }
            at(size).become(line);
            size++;
            return true;
        }

        Line at(int i) {
            Line line = i >= 0 && i < lines.length ? lines[i] : null;
            return line == null ? blank : line;
        }

        void weigh(Told told) {
            for (int i = 0; i < size; i++) {
                worths.set(i, told.worthOf(at(i)));
            }
        }

        void priceNow(Told told, Prices prices, int week) {
            prices.lookUp(told, week);
            for (int i = 0; i < size; i++) {
                dues.set(i, prices.priceOf(at(i), CITIZEN));
            }
        }

        void priceWeekByWeek(Told told, Prices prices, int week, int kindOfOne) {
            for (int i = 0; i < size; i++) {
                prices.lookUp(told, week + i);
                dues.set(i, prices.priceOf(at(i), kindOfOne));
            }
        }

        void choosePage(int halves) {
            mostWorth = 0;
            chosen = 0;
            for (int set = 0; set < 1 << size; set++) {
                if (sumOf(dues, set) <= halves) {
                    offer(set);
                }
            }
        }

        void choosePlan(int halves, int kindOfOne, int ration) {
            mostWorth = 0;
            chosen = 0;
            for (int set = 0; set < 1 << size; set++) {
                if (canPay(set, halves, kindOfOne, ration)) {
                    offer(set);
                }
            }
        }

        private boolean canPay(int set, int halves, int kindOfOne, int ration) {
            int has = halves;
            for (int i = 0; i < size; i++) {
                has -= isIn(set, i) ? dues.at(i) : 0;
                if (has < 0) {
                    return false;
                }
                has = halvesNextWeek(has, kindOfOne, ration);
            }
            return true;
        }

        /** Sets come in their order: so of like worth the least stays. */
        private void offer(int set) {
            int worth = sumOf(worths, set);
            if (worth > mostWorth) {
                mostWorth = worth;
                chosen = set;
            }
        }

        private int sumOf(Row row, int set) {
            int sum = 0;
            for (int i = 0; i < size; i++) {
                sum += isIn(set, i) ? row.at(i) : 0;
            }
            return sum;
        }
    }

    /** What is found by trying all that a line could be, and all who could settle together. */
    private static final class Trials {
        private final Line trial = new Line();
        private final Line best = new Line();
        private final Row groups = new Row(1 << MOST_PEOPLE);
        private int least;
        private int most;
        private int set;
        private int ways;

        /** The least (NONE: no order is good), the most, the best order. */
        void tryOrders(Line line, Prices prices) {
            least = NONE;
            most = NONE;
            trial.become(line);
            trial.sort();
            boolean isMore = true;
            for (int i = 0; i < MOST_ORDERS && isMore; i++) {
                if (prices.isGood(trial)) {
                    weigh(prices.priceOf(trial, CITIZEN));
                }
                isMore = trial.nextOrder();
            }
        }

        private void weigh(int price) {
            most = Math.max(most, price);
            if (least == NONE || price < least) {
                least = price;
                best.become(trial);
            }
        }

        /** The least number of words, and their set. */
        void tryOmissions(Line line, Prices prices, int mostPrice) {
            least = MOST_PLACES + 1;
            set = 0;
            for (int left = 0; left < 1 << line.length; left++) {
                int words = Integer.bitCount(left);
                if (words < least && leaveOut(line, left) && prices.priceOf(trial, CITIZEN) <= mostPrice) {
                    least = words;
                    set = left;
                }
            }
        }

        /** False: there is a hole among them, and holes stay. */
        private boolean leaveOut(Line line, int left) {
            trial.length = 0;
            for (int i = 0; i < line.length; i++) {
                if (!isIn(left, i)) {
                    trial.append(line.wordAt(i));
                } else if (line.wordAt(i) == NONE) {
                    return false;
                }
            }
            return true;
        }

        /** The ways, and as the best the first of them. */
        void tryFillings(Line line, Prices prices, int words, int price) {
            ways = 0;
            int holes = line.holeCount();
            if (holes > 0 && words == 0) {
                return;
            }
            trial.become(line);
            for (int hole = 0; hole < holes; hole++) {
                trial.change(line.placeOfHole(hole), 0);
            }
            boolean isMore = true;
            for (int i = 0; i < MOST_FILLINGS && isMore; i++) {
                if (prices.isGood(trial) && prices.priceOf(trial, CITIZEN) == price) {
                    if (ways == 0) {
                        best.become(trial);
                    }
                    ways++;
                }
                isMore = nextFilling(line, holes, words);
            }
        }

        private boolean nextFilling(Line line, int holes, int words) {
            for (int hole = holes - 1; hole >= 0; hole--) {
                int place = line.placeOfHole(hole);
                int next = trial.wordAt(place) + 1;
                if (next < words) {
                    trial.change(place, next);
                    return true;
                }
                trial.change(place, 0);
            }
            return false;
        }

        /** People whose nets together are 0 settle among themselves with one payment fewer than they are. */
        int fewestPayments(State state, int people) {
            int all = (1 << people) - 1;
            for (int some = 1; some <= all; some++) {
                int mostGroups = 0;
                int sum = 0;
                for (int i = 0; i < people; i++) {
                    if (isIn(some, i)) {
                        sum += state.balance(i);
                        mostGroups = Math.max(mostGroups, groups.at(some - (1 << i)));
                    }
                }
                groups.set(some, sum == 0 ? mostGroups + 1 : mostGroups);
            }
            return people - groups.at(all);
        }
    }
}
