import java.util.ArrayDeque;
import java.util.ArrayList;
import java.util.Arrays;
import java.util.Collections;
import java.util.Deque;
import java.util.List;
import java.util.TreeSet;
import java.util.function.IntPredicate;
import java.util.regex.Matcher;
import java.util.regex.Pattern;

/**
 * The document once more, written apart from the program and in other ways (lists, regular expressions,
 * recursion, whole copies), so that a slip in one of the two shows as a difference.
 */
final class Model {
    static final int NONE = -1, UNKNOWN = -2, OUTSIDE = -3, NOT = -4, FULL = -5;

    private record Word(int kind, int worth) { }

    private record Change(int word, int kind, int week) { }

    private record Person(int kind, int wants) { }

    private static final class Realm {
        List<Word> words = new ArrayList<>();
        List<Change> changes = new ArrayList<>();
        List<Person> people = new ArrayList<>();
        int ration = 9;
        TreeSet<Integer> rules = new TreeSet<>();
        int clauses;

        Realm copy() {
            Realm r = new Realm();
            r.words.addAll(words);
            r.changes.addAll(changes);
            r.people.addAll(people);
            r.ration = ration;
            r.rules.addAll(rules);
            return r;
        }
    }

    private static final class Days {
        int week;
        int[] halves = new int[4];
        int[] loaves = new int[4];
        int[] fined = new int[4];
        int[] worth = new int[4];
        int[][] said = new int[4][10];
        int[][] owes = new int[4][4];

        Days copy() {
            Days d = new Days();
            d.week = week;
            d.halves = halves.clone();
            d.loaves = loaves.clone();
            d.fined = fined.clone();
            d.worth = worth.clone();
            for (int i = 0; i < 4; i++) {
                d.said[i] = said[i].clone();
                d.owes[i] = owes[i].clone();
            }
            return d;
        }
    }

    private final StringBuilder text = new StringBuilder();
    private Realm realm = new Realm();
    private Days days = new Days();
    private List<Integer> line = new ArrayList<>();
    private final List<List<Integer>> drafts = new ArrayList<>();
    private final Deque<Days> undone = new ArrayDeque<>();
    private final Days[] kept = new Days[2];

    int write(int letter) {
        if (letter < 0 || letter > 255) {
            return OUTSIDE;
        }
        if (text.length() == 160) {
            return FULL;
        }
        text.append((char) letter);
        return text.length();
    }

    int erase() {
        int n = text.length();
        text.setLength(0);
        return n;
    }

    private record Token(String text, int place) { }

    private static final class Fault extends RuntimeException {
        private static final long serialVersionUID = 1L;

        final int place;

        Fault(int place) {
            this.place = place;
        }
    }

    /** Reads the text by its tokens; throws Fault. */
    private Realm parse() {
        List<Token> tokens = new ArrayList<>();
        Matcher m = Pattern.compile("[a-z]+|[0-9]+|[^ ]", Pattern.DOTALL).matcher(text);
        while (m.find()) {
            tokens.add(new Token(m.group(), m.start()));
        }
        tokens.add(new Token("", text.length()));
        Deque<Token> rest = new ArrayDeque<>(tokens);
        Realm r = realm.copy();
        while (true) {
            clause(r, rest);
            r.clauses++;
            Token t = rest.poll();
            if (t.text.isEmpty()) {
                return r;
            }
            if (!t.text.equals(";") || r.clauses == 14) {
                throw new Fault(t.place);
            }
        }
    }

    private static int number(Deque<Token> rest, int most) {
        Token t = rest.poll();
        if (!t.text.matches("[0-9]{1,2}") || Integer.parseInt(t.text) > most) {
            throw new Fault(t.place);
        }
        return Integer.parseInt(t.text);
    }

    private static void clause(Realm r, Deque<Token> rest) {
        Token t = rest.poll();
        int wordKind = List.of("noun", "plain", "colour", "half", "name").indexOf(t.text);
        int personKind = List.of("citizen", "lover", "critic", "poet").indexOf(t.text);
        int rule = List.of("names", "twice", "swell").indexOf(t.text);
        if (wordKind >= 0 && r.words.size() < 10) {
            r.words.add(new Word(wordKind, number(rest, 30)));
        } else if (personKind >= 0 && r.people.size() < 4) {
            r.people.add(new Person(personKind, number(rest, 20)));
        } else if (rule >= 0) {
            r.rules.add(1 << rule);
        } else if (t.text.equals("mild")) {
            r.rules.clear();
        } else if (t.text.equals("ration")) {
            r.ration = number(rest, 20);
        } else if (t.text.equals("realm")) {
            Realm anew = new Realm();
            r.words = anew.words;
            r.people = anew.people;
            r.changes = anew.changes;
            r.rules = anew.rules;
            r.ration = anew.ration;
        } else if (t.text.equals("change") && r.changes.size() < 6) {
            int word = number(rest, r.words.size() - 1);
            int kind = number(rest, 4);
            r.changes.add(new Change(word, kind, number(rest, 99)));
        } else {
            throw new Fault(t.place);
        }
    }

    int fault() {
        try {
            parse();
            return NONE;
        } catch (Fault f) {
            return f.place;
        }
    }

    int realm() {
        if (fault() != NONE) {
            return NOT;
        }
        realm = parse();
        text.setLength(0);
        days = new Days();
        for (int i = 0; i < realm.people.size(); i++) {
            days.halves[i] = 2 * realm.ration;
            days.loaves[i] = 10;
        }
        line = new ArrayList<>();
        drafts.clear();
        undone.clear();
        Arrays.fill(kept, null);
        return realm.clauses;
    }

    private boolean noWord(int word) {
        return word < 0 || word >= realm.words.size();
    }

    private boolean nobody(int one) {
        return one < 0 || one >= realm.people.size();
    }

    private int kind(int word, int week) {
        int kind = realm.words.get(word).kind;
        for (int w = 0; w <= Math.min(week, 99); w++) {
            for (Change c : realm.changes) {
                if (c.word == word && c.week == w) {
                    kind = c.kind;
                }
            }
        }
        return kind;
    }

    int word(int word, int what) {
        if (noWord(word)) {
            return UNKNOWN;
        }
        if (what < 0 || what > 3) {
            return OUTSIDE;
        }
        int said = 0;
        for (int[] row : days.said) {
            said += row[word];
        }
        Word w = realm.words.get(word);
        return new int[] {kind(word, days.week), w.worth, w.kind, said}[what];
    }

    int one(int one, int what) {
        if (nobody(one)) {
            return UNKNOWN;
        }
        if (what < 0 || what > 6) {
            return OUTSIDE;
        }
        Person p = realm.people.get(one);
        return new int[] {p.kind, days.halves[one], days.loaves[one], days.fined[one], days.worth[one],
            Arrays.stream(days.said[one]).sum(), p.wants}[what];
    }

    int as(int one, int kind) {
        if (nobody(one)) {
            return UNKNOWN;
        }
        if (kind < 0 || kind > 4) {
            return OUTSIDE;
        }
        List<List<Integer>> kinds = List.of(List.of(0, 1), List.of(0, 1, 2), List.of(0, 3), List.of(0, 3, 4));
        return kinds.get(realm.people.get(one).kind).contains(kind) ? cost(one, days.week) : NOT;
    }

    int put(int word) {
        if (word != NONE && noWord(word)) {
            return UNKNOWN;
        }
        if (line.size() == 8) {
            return FULL;
        }
        line.add(word);
        return line.size();
    }

    int wipe() {
        int n = line.size();
        line.clear();
        return n;
    }

    int line(int i) {
        return i < 0 || i >= line.size() ? OUTSIDE : line.get(i);
    }

    private static boolean adjective(int kind) {
        return kind >= 1 && kind <= 3;
    }

    private int[] kinds(List<Integer> row, int week) {
        return row.stream().mapToInt(w -> w == NONE ? 9 : kind(w, week)).toArray();
    }

    private int price(List<Integer> row, int personKind, int week) {
        int[] kinds = kinds(row, week);
        List<Integer> colours = new ArrayList<>();
        int sum = 0;
        for (int i = 0; i < kinds.length; i++) {
            int price = adjective(kinds[i]) ? 2 : 0;
            price = kinds[i] == 3 ? 1 : price;
            if (realm.rules.contains(1) && i + 1 < kinds.length && kinds[i + 1] == 4) {
                price = 0;
            }
            if (realm.rules.contains(2) && row.indexOf(row.get(i)) < i) {
                price = 0;
            }
            if (realm.rules.contains(4) && price > 0 && i > 1 && adjective(kinds[i - 1]) && adjective(kinds[i - 2])) {
                price++;
            }
            if (kinds[i] == 2 && price > 0) {
                colours.add(price);
            }
            sum += price;
        }
        if (personKind == 2) {
            sum -= colours.size();
        }
        if (personKind == 3 && !colours.isEmpty()) {
            sum -= colours.get(0) + colours.size() - 1;
        }
        return sum;
    }

    private int worth(List<Integer> row) {
        return row.stream().mapToInt(w -> w == NONE ? 0 : realm.words.get(w).worth).sum();
    }

    private boolean isGood(List<Integer> row) {
        StringBuilder s = new StringBuilder();
        for (int kind : kinds(row, days.week)) {
            s.append(kind);
        }
        return s.toString().matches("[0-4]*[04]") && s.indexOf("00") < 0;
    }

    int cost(int one, int week) {
        if (nobody(one)) {
            return UNKNOWN;
        }
        return week < 0 || week > 999 ? OUTSIDE : price(line, realm.people.get(one).kind, week);
    }

    int good() {
        return isGood(line) ? 1 : 0;
    }

    private boolean unsayable() {
        return line.isEmpty() || line.contains(NONE);
    }

    private void remember() {
        undone.push(days.copy());
        if (undone.size() > 8) {
            undone.removeLast();
        }
    }

    int say(int one) {
        if (nobody(one)) {
            return UNKNOWN;
        }
        if (unsayable()) {
            return NOT;
        }
        remember();
        int price = cost(one, days.week);
        if (days.halves[one] < price) {
            days.fined[one]++;
            days.halves[one] = 0;
            return 0;
        }
        days.halves[one] -= price;
        days.worth[one] += worth(line);
        line.forEach(w -> days.said[one][w]++);
        return 1;
    }

    int week() {
        if (days.week == 999) {
            return FULL;
        }
        remember();
        for (int i = 0; i < realm.people.size(); i++) {
            days.halves[i] = lapse(i, days.halves[i]);
        }
        return ++days.week;
    }

    private int lapse(int one, int halves) {
        int more = 2 * realm.ration;
        return realm.people.get(one).kind == 1 ? Math.min(60, halves + more) : more;
    }

    int trade(int one, int other, int n, int bread) {
        if (nobody(one) || nobody(other) || one == other) {
            return UNKNOWN;
        }
        if (n < 1 || n > 60 || bread < 0 || bread > 99) {
            return OUTSIDE;
        }
        if (days.halves[one] < n || days.loaves[other] < bread) {
            return NOT;
        }
        if (days.halves[other] + n > 60) {
            return FULL;
        }
        remember();
        days.halves[one] -= n;
        days.loaves[one] += bread;
        days.loaves[other] -= bread;
        days.halves[other] += n;
        return days.halves[other];
    }

    int owe(int one, int other, int n) {
        if (nobody(one) || nobody(other) || one == other) {
            return UNKNOWN;
        }
        if (n < 1 || n > 99) {
            return OUTSIDE;
        }
        if (days.owes[one][other] > 999 - n) {
            return FULL;
        }
        remember();
        days.owes[one][other] += n;
        return days.owes[one][other];
    }

    int owes(int one, int other) {
        return nobody(one) || nobody(other) || one == other ? UNKNOWN : days.owes[one][other];
    }

    int undo() {
        if (undone.isEmpty()) {
            return NOT;
        }
        days = undone.pop();
        return undone.size();
    }

    int keep(int k) {
        if (k != 0 && k != 1) {
            return UNKNOWN;
        }
        kept[k] = days.copy();
        return days.week;
    }

    int back(int k) {
        if (k != 0 && k != 1) {
            return UNKNOWN;
        }
        if (kept[k] == null) {
            return NOT;
        }
        days = kept[k].copy();
        undone.clear();
        return days.week;
    }

    /** All good orders, each as its price (two digits) ahead of its words; the least text is the cheapest. */
    private TreeSet<String> orders() {
        TreeSet<String> all = new TreeSet<>();
        arrange(new ArrayList<>(), new ArrayList<>(line), all);
        return all;
    }

    private void arrange(List<Integer> row, List<Integer> rest, TreeSet<String> all) {
        if (rest.isEmpty() && isGood(row)) {
            StringBuilder s = new StringBuilder();
            int price = price(row, 0, days.week);
            s.append(price / 10).append(price % 10);
            row.forEach(s::append);
            all.add(s.toString());
        }
        for (int i = 0; i < rest.size(); i++) {
            List<Integer> less = new ArrayList<>(rest);
            List<Integer> more = new ArrayList<>(row);
            more.add(less.remove(i));
            arrange(more, less, all);
        }
    }

    int cheapest(int i) {
        if (i < NONE) {
            return OUTSIDE;
        }
        if (line.contains(NONE) || line.size() > 6) {
            return NOT;
        }
        TreeSet<String> all = orders();
        if (all.isEmpty() || i >= line.size()) {
            return NONE;
        }
        String first = all.first();
        return i == NONE ? Integer.parseInt(first.substring(0, 2)) : first.charAt(2 + i) - '0';
    }

    int loophole() {
        if (line.contains(NONE) || line.size() > 6) {
            return NOT;
        }
        TreeSet<String> all = orders();
        if (all.isEmpty()) {
            return NONE;
        }
        return Integer.parseInt(all.last().substring(0, 2)) - Integer.parseInt(all.first().substring(0, 2));
    }

    int leftOut(int c, int what) {
        if (c < 0 || c > 99 || what < 0 || what > 1) {
            return OUTSIDE;
        }
        for (int n = 0; n <= line.size(); n++) {
            int places = omit(n, c);
            if (places != NONE) {
                return what == 0 ? n : places;
            }
        }
        throw new IllegalStateException("some words can always be left out");
    }

    private int omit(int n, int c) {
        for (int places = 0; places < 256; places++) {
            List<Integer> row = new ArrayList<>();
            boolean can = Integer.bitCount(places) == n && places >> line.size() == 0;
            for (int i = 0; i < line.size(); i++) {
                if ((places & 1 << i) == 0) {
                    row.add(line.get(i));
                } else {
                    can &= line.get(i) != NONE;
                }
            }
            if (can && price(row, 0, days.week) <= c) {
                return places;
            }
        }
        return NONE;
    }

    int holes(int c, int i) {
        if (c < 0 || c > 99 || i < NONE) {
            return OUTSIDE;
        }
        int count = Collections.frequency(line, NONE);
        if (count > 3) {
            return NOT;
        }
        List<List<Integer>> ways = new ArrayList<>();
        fill(line, new ArrayList<>(), c, ways);
        if (i == NONE) {
            return ways.size();
        }
        return ways.isEmpty() || i >= count ? NONE : ways.get(0).get(i);
    }

    private void fill(List<Integer> row, List<Integer> filled, int c, List<List<Integer>> ways) {
        int hole = row.indexOf(NONE);
        if (hole < 0) {
            if (isGood(row) && price(row, 0, days.week) == c) {
                ways.add(filled);
            }
            return;
        }
        for (int word = 0; word < realm.words.size(); word++) {
            List<Integer> next = new ArrayList<>(row);
            next.set(hole, word);
            List<Integer> more = new ArrayList<>(filled);
            more.add(word);
            fill(next, more, c, ways);
        }
    }

    int draft() {
        if (unsayable()) {
            return NOT;
        }
        if (drafts.size() == 6) {
            return FULL;
        }
        drafts.add(List.copyOf(line));
        return drafts.size();
    }

    int burn() {
        int n = drafts.size();
        drafts.clear();
        return n;
    }

    int drafted(int draft, int one, int what) {
        if (draft < 0 || draft >= drafts.size() || nobody(one)) {
            return UNKNOWN;
        }
        if (what < 0 || what > 2) {
            return OUTSIDE;
        }
        List<Integer> row = drafts.get(draft);
        return new int[] {row.size(), price(row, realm.people.get(one).kind, days.week), worth(row)}[what];
    }

    private int bestSet(int what, IntPredicate can) {
        int best = 0;
        int bestWorth = 0;
        for (int set = (1 << drafts.size()) - 1; set >= 0; set--) {
            int worth = 0;
            for (int i = 0; i < drafts.size(); i++) {
                worth += (set >> i) % 2 * worth(drafts.get(i));
            }
            if (worth >= bestWorth && can.test(set)) {
                best = set;
                bestWorth = worth;
            }
        }
        return what == 0 ? bestWorth : best;
    }

    int page(int h, int what) {
        if (h < 0 || h > 99 || what < 0 || what > 1) {
            return OUTSIDE;
        }
        return bestSet(what, set -> {
            int sum = 0;
            for (int i = 0; i < drafts.size(); i++) {
                sum += (set >> i) % 2 * price(drafts.get(i), 0, days.week);
            }
            return sum <= h;
        });
    }

    int plan(int one, int what) {
        if (nobody(one)) {
            return UNKNOWN;
        }
        return what < 0 || what > 1 ? OUTSIDE : bestSet(what, set -> canSay(one, set, 0, days.halves[one]));
    }

    private boolean canSay(int one, int set, int i, int halves) {
        if (i == drafts.size()) {
            return true;
        }
        int price = (set >> i) % 2 * price(drafts.get(i), realm.people.get(one).kind, days.week + i);
        return price <= halves && canSay(one, set, i + 1, lapse(one, halves - price));
    }

    int likeness(int one) {
        if (nobody(one)) {
            return UNKNOWN;
        }
        int sum = 0;
        for (int word : line) {
            if (word != NONE) {
                sum += 1000 * (days.said[one][word] + 1) / (one(one, 5) + realm.words.size());
            }
        }
        return sum;
    }

    int author() {
        int author = NONE;
        for (int i = realm.people.size() - 1; i >= 0; i--) {
            if (line.stream().anyMatch(w -> w != NONE) && (author == NONE || likeness(i) >= likeness(author))) {
                author = i;
            }
        }
        return author;
    }

    int left(int what) {
        if (what < 0 || what > 2) {
            return OUTSIDE;
        }
        List<int[]> pairs = new ArrayList<>();
        for (int a = 0; a < realm.people.size(); a++) {
            for (int b = 0; b < realm.people.size(); b++) {
                int price = realm.people.get(a).wants + 1;
                boolean can = days.halves[a] >= 1 && days.halves[b] < 60 && days.loaves[b] >= price;
                if (a != b && can && realm.people.get(b).wants > price) {
                    pairs.add(new int[] {pairs.size(), a, b});
                }
            }
        }
        if (what == 0) {
            return pairs.size();
        }
        return pairs.isEmpty() ? NONE : pairs.get(0)[what];
    }

    int net(int one) {
        if (nobody(one)) {
            return UNKNOWN;
        }
        int net = 9999;
        for (int i = 0; i < 4; i++) {
            net += days.owes[i][one] - days.owes[one][i];
        }
        return net;
    }

    int payments() {
        List<Integer> nets = new ArrayList<>();
        for (int i = 0; i < realm.people.size(); i++) {
            nets.add(net(i) - 9999);
        }
        return settle(nets);
    }

    /** The first who is not even passes all of his on to one other, tried with each. */
    private static int settle(List<Integer> nets) {
        List<Integer> rest = new ArrayList<>(nets);
        rest.removeIf(n -> n == 0);
        if (rest.isEmpty()) {
            return 0;
        }
        int first = rest.remove(0);
        int least = 99;
        for (int i = 0; i < rest.size(); i++) {
            List<Integer> then = new ArrayList<>(rest);
            then.set(i, then.get(i) + first);
            least = Math.min(least, 1 + settle(then));
        }
        return least;
    }

    int count(int what) {
        if (what < 0 || what > 11) {
            return OUTSIDE;
        }
        return new int[] {realm.words.size(), realm.people.size(), realm.changes.size(), realm.ration,
            realm.rules.stream().mapToInt(r -> r).sum(), days.week, line.size(), drafts.size(), undone.size(),
            Arrays.stream(days.halves).sum(), Arrays.stream(days.loaves).sum(), text.length()}[what];
    }
}
