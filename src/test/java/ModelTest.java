/** Long runs of calls, made by a row of numbers that is always the same: each answer is as the model's. */
public final class ModelTest {
    private static final int RUNS = 2500, CALL_KINDS = 34;
    /** A step makes at most five calls: so a run stays within the 512 that are promised. */
    private static final int CALLS = 507;
    private static final String[] CLAUSES = {"noun", "plain", "colour", "half", "name", "citizen", "lover", "critic",
        "poet", "change", "ration", "names", "twice", "swell", "mild", "realm"};

    private final Checks checks = new Checks();
    private AdjectiveCoupons x;
    private Model model;
    private int call;
    private long seed;

    private ModelTest() {
    }

    public static void main(String[] args) {
        ModelTest test = new ModelTest();
        for (int run = 0; run < RUNS; run++) {
            test.seed = 77L + run;
            test.run();
        }
        test.checks.finish();
    }

    private void run() {
        x = new AdjectiveCoupons();
        model = new Model();
        call = 0;
        int wild = below(8) == 0 ? 4 : 40;
        tell();
        while (call < CALLS) {
            step(below(CALL_KINDS), wild);
        }
    }

    private int below(int n) {
        seed = seed * 6364136223846793005L + 1442695040888963407L;
        return (int) ((seed >>> 33) % n);
    }

    /** Mostly 0 .. n - 1; else a number beside it, or far away. */
    private int near(int n, int wild) {
        if (below(wild) != 0) {
            return below(Math.max(1, n));
        }
        int[] odd = {-1, -2, n, n + 1, Integer.MIN_VALUE, Integer.MAX_VALUE, 1 << 16, 100};
        return odd[below(odd.length)];
    }

    private void due(String name, int got, int want) {
        call++;
        checks.due("seed " + seed + ", call " + call + ": " + name, got, want);
    }

    private void tell() {
        StringBuilder text = new StringBuilder();
        int clauses = 1 + below(14);
        for (int i = 0; i < clauses && text.length() < 140; i++) {
            text.append(i > 0 ? ";" : "").append(clause());
        }
        if (below(6) == 0 && text.length() > 0) {
            spoil(text);
        }
        for (int i = 0; i < text.length(); i++) {
            write(text.charAt(i));
        }
        due("fault() of '" + text + "'", x.fault(), model.fault());
        due("realm()", x.realm(), model.realm());
        if (below(3) > 0 || model.count(11) > 100) {
            due("erase()", x.erase(), model.erase());
        }
    }

    private void write(int letter) {
        due("write(" + letter + ")", x.write(letter), model.write(letter));
    }

    private String clause() {
        int which = below(below(3) == 0 ? 16 : 10);
        String blank = " ".repeat(below(5) == 0 ? below(3) : 1);
        if (below(30) == 0) {
            return "realm";
        }
        if (which < 9) {
            return CLAUSES[which] + blank + below(which < 5 ? 31 : 21);
        }
        if (which == 9) {
            return "change" + blank + below(5) + " " + below(5) + " " + below(below(4) == 0 ? 100 : 4);
        }
        return which == 10 ? "ration " + below(21) : CLAUSES[which];
    }

    private void spoil(StringBuilder text) {
        int place = below(text.length());
        String odd = " ;;0123456789azAZ.-\u00ff\u0000";
        switch (below(3)) {
            case 0:
                text.setCharAt(place, odd.charAt(below(odd.length())));
                break;
            case 1:
                text.deleteCharAt(place);
                break;
            default:
                text.insert(place, odd.charAt(below(odd.length())));
        }
    }

    private void step(int kind, int wild) {
        int words = model.count(0);
        int people = model.count(1);
        if (kind < 12) {
            stepLine(kind, words, people, wild);
        } else if (kind < 22) {
            stepWeeks(kind, people, wild);
        } else {
            stepForetold(kind, people, wild);
        }
    }

    private void stepLine(int kind, int words, int people, int wild) {
        int a = near(people, wild);
        int n = near(words, wild);
        switch (kind) {
            case 0:
            case 1:
            case 2:
            case 3:
            case 4: {
                int put = below(6) == 0 ? -1 : n;
                due("put(" + put + ")", x.put(put), model.put(put));
                break;
            }
            case 5:
                if (below(2) == 0) {
                    due("wipe()", x.wipe(), model.wipe());
                }
                break;
            case 6: {
                int i = near(8, wild);
                due("line(" + i + ")", x.line(i), model.line(i));
                break;
            }
            case 7: {
                int week = near(below(2) == 0 ? 6 : 1000, wild);
                due("cost(" + a + ", " + week + ")", x.cost(a, week), model.cost(a, week));
                break;
            }
            case 8: {
                int such = near(5, wild);
                due("as(" + a + ", " + such + ")", x.as(a, such), model.as(a, such));
                break;
            }
            case 9: {
                int what = near(4, wild);
                due("word(" + n + ", " + what + ")", x.word(n, what), model.word(n, what));
                break;
            }
            case 10: {
                int what = near(7, wild);
                due("one(" + a + ", " + what + ")", x.one(a, what), model.one(a, what));
                break;
            }
            default:
                due("good()", x.good(), model.good());
        }
    }

    private void stepWeeks(int kind, int people, int wild) {
        int a = near(people, wild);
        int b = near(people, wild);
        switch (kind) {
            case 12:
            case 13:
                due("say(" + a + ")", x.say(a), model.say(a));
                break;
            case 14:
                due("week()", x.week(), model.week());
                break;
            case 15: {
                int n = near(below(3) == 0 ? 62 : 9, wild);
                int bread = near(below(3) == 0 ? 100 : 5, wild);
                due("trade(" + a + ", " + b + ", " + n + ", " + bread + ")", x.trade(a, b, n, bread),
                    model.trade(a, b, n, bread));
                break;
            }
            case 16:
            case 17: {
                int n = below(4) == 0 ? near(100, wild) : below(3) == 0 ? 99 : near(4, wild);
                due("owe(" + a + ", " + b + ", " + n + ")", x.owe(a, b, n), model.owe(a, b, n));
                break;
            }
            case 18:
                due("owes(" + a + ", " + b + ")", x.owes(a, b), model.owes(a, b));
                break;
            case 19:
                due("undo()", x.undo(), model.undo());
                break;
            case 20: {
                int k = near(2, wild);
                due("keep(" + k + ")", x.keep(k), model.keep(k));
                break;
            }
            default:
                stepRare(wild);
        }
    }

    private void stepRare(int wild) {
        int k = near(2, wild);
        switch (below(6)) {
            case 0:
                due("back(" + k + ")", x.back(k), model.back(k));
                break;
            case 1:
                if (call < 300) {
                    tell();
                }
                break;
            case 2:
                write(near(256, wild));
                break;
            case 3:
                due("erase()", x.erase(), model.erase());
                break;
            case 4:
                due("fault()", x.fault(), model.fault());
                break;
            default:
                due("realm()", x.realm(), model.realm());
        }
    }

    private void stepForetold(int kind, int people, int wild) {
        int a = near(people, wild);
        int h = near(below(3) == 0 ? 100 : 14, wild);
        int what = near(2, wild);
        int i = near(6, wild) - 1;
        switch (kind) {
            case 22:
                due("cheapest(" + i + ")", x.cheapest(i), model.cheapest(i));
                break;
            case 23:
                due("loophole()", x.loophole(), model.loophole());
                break;
            case 24:
                due("leftOut(" + h + ", " + what + ")", x.leftOut(h, what), model.leftOut(h, what));
                break;
            case 25:
                due("holes(" + h + ", " + i + ")", x.holes(h, i), model.holes(h, i));
                break;
            case 26:
            case 27:
                due("draft()", x.draft(), model.draft());
                break;
            case 28:
                if (below(4) == 0) {
                    due("burn()", x.burn(), model.burn());
                }
                break;
            case 29: {
                int draft = near(model.count(7), wild);
                int of = near(3, wild);
                due("drafted(" + draft + ", " + a + ", " + of + ")", x.drafted(draft, a, of), model.drafted(draft, a, of));
                break;
            }
            case 30:
                due("page(" + h + ", " + what + ")", x.page(h, what), model.page(h, what));
                break;
            case 31:
                due("plan(" + a + ", " + what + ")", x.plan(a, what), model.plan(a, what));
                break;
            case 32:
                stepSettled(a, wild);
                break;
            default: {
                int of = near(12, wild);
                due("count(" + of + ")", x.count(of), model.count(of));
            }
        }
    }

    private void stepSettled(int a, int wild) {
        int what = near(3, wild);
        due("likeness(" + a + ")", x.likeness(a), model.likeness(a));
        due("author()", x.author(), model.author());
        due("left(" + what + ")", x.left(what), model.left(what));
        due("net(" + a + ")", x.net(a), model.net(a));
        due("payments()", x.payments(), model.payments());
    }
}
