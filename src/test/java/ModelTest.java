import java.util.Random;

/** Random runs of calls, each answer compared with the model's. */
public final class ModelTest {
    private static final int RUNS = 1200;
    private static final int CALLS = 400;

    private final Random random;
    private final SpokeRing x = new SpokeRing();
    private final Model m = new Model();
    private final StringBuilder history = new StringBuilder();
    private boolean apart = false;

    private ModelTest(long seed) {
        random = new Random(seed);
    }

    public static void main(String[] args) {
        long from = args.length > 0 ? Long.parseLong(args[0]) : 1;
        int runs = args.length > 1 ? Integer.parseInt(args[1]) : RUNS;
        for (int run = 0; run < runs && Kit.wrong < 5; run++) {
            new ModelTest(from + run).go("run " + (from + run));
        }
        faults(20000);
        Kit.end("ModelTest");
    }

    private static void faults(int many) {
        ModelTest t = new ModelTest(77);
        for (int i = 0; i < many && Kit.wrong < 5; i++) {
            int sort = i % 3;
            String text = t.mutated(t.text(sort));
            text = text.substring(0, Math.min(240, text.length()));
            Kit.fault(sort, text, new Model.Grammar(text).fault(sort));
        }
    }

    private void go(String name) {
        if (random.nextInt(10) > 0) {
            tell(0, wheel());
        }
        for (int i = 0; i < CALLS && !apart; i++) {
            call(name);
            if (i % 20 == 0) {
                for (int what = 0; what < 16; what++) {
                    due(name, "count(" + what + ")", x.count(what), m.count(what));
                }
            }
        }
    }

    private void due(String name, String call, long got, long want) {
        history.append(call).append(" = ").append(want).append('\n');
        Kit.due(name + ": " + call, got, want);
        if (got != want) {
            apart = true;
            System.out.println(history);
        }
    }

    private void due(String name, String call, boolean got, boolean want) {
        due(name, call, got ? 1 : 0, want ? 1 : 0);
    }

    /** A number mostly within bounds, now and then just or far beyond. */
    private int near(int least, int most) {
        int kind = random.nextInt(24);
        if (kind == 0) {
            return least - 1;
        }
        if (kind == 1) {
            return most + 1;
        }
        return least + random.nextInt(most - least + 1);
    }

    private int who() {
        return near(0, Math.max(0, m.size - 1));
    }

    private boolean coin() {
        return random.nextBoolean();
    }

    private void call(String name) {
        int kind = random.nextInt(52);
        if (kind < 10) {
            acts(name, kind);
        } else if (kind < 24) {
            asks(name, kind);
        } else if (kind < 36) {
            more(name, kind);
        } else {
            texts(name, kind);
        }
    }

    private void acts(String name, int kind) {
        int a = who();
        switch (kind) {
            case 0:
                due(name, "turn()", x.turn(), m.act('t', 0));
                break;
            case 1:
                due(name, "hold()", x.hold(), m.act('h', 0));
                break;
            case 2:
                due(name, "away(" + a + ")", x.away(a), m.act('g', a));
                break;
            case 3:
                due(name, "mend(" + a + ")", x.mend(a), m.act('m', a));
                break;
            case 4:
                boolean all = coin();
                due(name, "vote(" + all + ")", x.vote(all), m.vote(all));
                break;
            case 5:
                int v = near(0, 9);
                due(name, "wet(" + v + ")", x.wet(v), m.wet(v));
                break;
            case 6:
                int n = near(1, 50);
                due(name, "give(" + n + ")", x.give(n), m.give(n));
                break;
            case 7:
                int years = near(1, 30);
                long seed = random.nextLong();
                due(name, "years(" + years + ", " + seed + ")", x.years(years, seed), m.years(years, seed));
                break;
            case 8:
                due(name, "undo()", x.undo(), m.undo());
                break;
            default:
                int slip = near(0, 9);
                due(name, "slip(" + slip + ")", x.slip(slip), m.slip(slip));
                break;
        }
    }

    private void asks(String name, int kind) {
        int a = who();
        int b = who();
        int i = near(-1, 3);
        int w = near(0, 1);
        switch (kind) {
            case 10:
                int what = near(0, 4);
                due(name, "spoke(" + a + ", " + what + ")", Kit.spoke(x, a, what), m.spoke(a, what));
                break;
            case 11:
                int row = near(0, coin() ? 3 : 59);
                int of = near(0, 2);
                due(name, "log(" + row + ", " + of + ")", x.log(row, of), m.log(row, of));
                break;
            case 12:
                int step = near(0, 15);
                due(name, "step(" + i + ", " + step + ", " + w + ")", x.step(i, step, w), m.step(i, step, w));
                break;
            case 13:
                due(name, "run(" + i + ", " + w + ")", x.run(i, w), m.run(i, w));
                break;
            case 14:
                due(name, "perform(" + i + ")", x.perform(i), m.perform(i));
                break;
            case 15:
                due(name, "bears(" + a + ", " + b + ")", x.bears(a, b), m.bears(a, b));
                break;
            case 16:
                due(name, "spare()", x.spare(), m.spare());
                break;
            case 17:
                int n = near(1, coin() ? 3 : 8);
                int bits = n >= 0 ? near(0, (1 << n) - 1) : 0;
                due(name, "plan(" + n + ", " + bits + ", " + w + ")", x.plan(n, bits, w), m.plan(n, bits, w));
                break;
            case 18:
                due(name, "settled(" + w + ")", x.settled(w), m.settled(w));
                break;
            case 19:
                if (random.nextInt(6) == 0) {
                    int k = near(1, 20);
                    boolean done = coin();
                    due(name, "seen(" + k + ", " + done + ")", x.seen(k, done), m.seen(k, done));
                }
                break;
            case 20:
                int j = near(-1, 9);
                due(name, "views(" + a + ", " + j + ")", x.views(a, j), m.views(a, j));
                break;
            case 21:
                due(name, "ask(" + a + ")", x.ask(a), m.ask(a));
                break;
            case 22:
                due(name, "power(" + a + ")", x.power(a), m.power(a));
                break;
            default:
                int to = near(1, 99);
                due(name, "often(" + a + ", " + to + ")", x.often(a, to), m.often(a, to));
                break;
        }
    }

    private void more(String name, int kind) {
        int a = who();
        int b = who();
        int c = near(0, 1);
        int d = near(0, 1);
        int w = near(0, 1);
        switch (kind) {
            case 24:
                due(name, "first(" + a + ")", x.first(a), m.first(a));
                break;
            case 25:
                due(name, "game(" + a + ", " + b + ", " + c + ", " + d + ", " + w + ")",
                        x.game(a, b, c, d, w), m.game(a, b, c, d, w));
                break;
            case 26:
                int i = near(-1, 3);
                due(name, "rests(" + a + ", " + b + ", " + i + ")", x.rests(a, b, i), m.rests(a, b, i));
                break;
            case 27:
                int n = near(0, 8);
                int chance = near(0, 100);
                due(name, "odds(" + a + ", " + n + ", " + chance + ")", x.odds(a, n, chance), m.odds(a, n, chance));
                break;
            case 28:
                int coins = near(0, 999);
                due(name, "shares(" + a + ", " + coins + ")", x.shares(a, coins), m.shares(a, coins));
                break;
            case 29:
            case 30:
            case 31:
                int what = near(0, 11);
                due(name, "all(" + what + ")", x.all(what), m.all(what));
                break;
            case 32:
                due(name, "image()", x.image(), m.image());
                break;
            case 33:
                if (random.nextInt(4) == 0) {
                    due(name, "back()", x.back(), m.back());
                }
                break;
            case 34:
                int law = near(-1, 3);
                due(name, "law(" + law + ")", x.law(law), m.law(law));
                break;
            default:
                int of = near(0, 15);
                due(name, "count(" + of + ")", x.count(of), m.count(of));
                break;
        }
    }

    private void texts(String name, int kind) {
        int sort = near(0, 2);
        switch (kind) {
            case 36:
                if (random.nextInt(25) == 0) {
                    tell(0, wheel());
                    due(name, "text(0)", x.text(0), m.text(0));
                }
                break;
            case 37:
                tell(1, law());
                due(name, "text(1)", x.text(1), m.text(1));
                break;
            case 38:
                tell(2, journey());
                due(name, "text(2)", x.text(2), m.text(2));
                break;
            case 39:
                type(name, mutated(text(near(0, 2))));
                due(name, "fault(" + sort + ")", x.fault(sort), m.fault(sort));
                break;
            case 40:
                int n = near(0, m.tape.length());
                due(name, "end(" + n + ")", x.end(n), m.end(n));
                break;
            default:
                acts(name, random.nextInt(4));
                break;
        }
    }

    private void tell(int sort, String text) {
        type("", text);
        if (sort == 0 && m.size == 0) {
            due("", "text(0)", x.text(0), m.text(0));
        }
    }

    private void type(String name, String text) {
        due(name, "end(0)", x.end(0), m.end(0));
        history.append("'").append(text).append("'\n");
        for (int from = 0; from < text.length(); from += 20) {
            int[] n = Kit.numbers(text, from);
            due(name, "feed", x.feed(n[0], n[1], n[2], n[3], n[4]), m.feed(n[0], n[1], n[2], n[3], n[4]));
        }
    }

    // ---- texts ----

    private String text(int sort) {
        return sort == 0 ? wheel() : sort == 1 ? law() : journey();
    }

    private String items(String letters, int... most) {
        StringBuilder text = new StringBuilder();
        int first = random.nextInt(letters.length());
        for (int i = 0; i < letters.length(); i++) {
            int which = (first + i) % letters.length();
            if (random.nextInt(3) > 0) {
                int value = random.nextInt(most[which] + 1);
                value = letters.charAt(which) == 's' ? Math.max(1, value) : value;
                text.append(letters.charAt(which));
                text.append(value < 10 && random.nextInt(9) == 0 ? "0" : "").append(value);
            }
        }
        return text.toString();
    }

    private String wheel() {
        int spokes = 3 + random.nextInt(6);
        int rules = random.nextInt(spokes + 2);
        int strong = random.nextInt(3) == 0 ? 99 : 40;
        StringBuilder text = new StringBuilder();
        for (int i = 0; i <= spokes; i++) {
            if (i == rules) {
                text.append(text.length() > 0 ? ";" : "").append('s').append(items("lwca", coin() ? 99 : 30, 9, 99, 1));
            }
            if (i < spokes) {
                text.append(text.length() > 0 ? ";" : "").append('k').append(items("svo", strong, 9, coin() ? 9 : 2));
            }
        }
        return blanked(text.toString());
    }

    private String journey() {
        StringBuilder text = new StringBuilder();
        int steps = 1 + random.nextInt(coin() ? 4 : 16);
        for (int i = 0; i < steps; i++) {
            text.append(i > 0 ? ";" : "");
            int kind = random.nextInt(5);
            text.append(kind < 2 ? "t" : kind == 2 ? "h" : kind == 3 ? "g" : "m");
            text.append(kind > 2 ? "" + random.nextInt(random.nextInt(4) == 0 ? 10 : 4) : "");
        }
        return blanked(text.toString());
    }

    private String law() {
        StringBuilder text = new StringBuilder();
        int clauses = 1 + random.nextInt(3);
        for (int i = 0; i < clauses; i++) {
            text.append(i > 0 ? ";" : "").append("y:");
            if (random.nextInt(3) > 0) {
                text.append(condition(0)).append('?');
            }
            text.append(sum(0));
        }
        return text.length() > 120 ? "y:v+d/2-w" : blanked(text.toString());
    }

    private String condition(int depth) {
        String text = unit(depth);
        while (random.nextInt(3) == 0) {
            text += (coin() ? "|" : "&") + unit(depth);
        }
        return text;
    }

    private String unit(int depth) {
        int kind = random.nextInt(6);
        if (kind == 0 && depth < 6) {
            return "!" + unit(depth + 1);
        }
        if (kind == 1 && depth < 6) {
            return "(" + condition(depth + 1) + ")";
        }
        return sum(depth) + "=<>".charAt(random.nextInt(3)) + sum(depth);
    }

    private String sum(int depth) {
        String text = atom(depth);
        while (random.nextInt(5) < 2) {
            text += "+-*/".charAt(random.nextInt(4)) + atom(depth);
        }
        return text;
    }

    private String atom(int depth) {
        int kind = random.nextInt(10);
        if (kind == 0 && depth < 6) {
            return "[" + sum(depth + 1) + "]";
        }
        if (kind < 4) {
            return "" + random.nextInt(random.nextInt(6) == 0 ? 10000 : 10);
        }
        return "" + "vdohwt".charAt(random.nextInt(6));
    }

    private String blanked(String text) {
        if (random.nextInt(4) > 0) {
            return text;
        }
        StringBuilder more = new StringBuilder();
        for (int i = 0; i < text.length(); i++) {
            boolean within = i > 0 && Character.isDigit(text.charAt(i)) && Character.isDigit(text.charAt(i - 1));
            more.append(!within && random.nextInt(4) == 0 ? " " : "").append(text.charAt(i));
        }
        return more.append(coin() ? " " : "").toString();
    }

    private String mutated(String text) {
        StringBuilder other = new StringBuilder(text);
        int many = random.nextInt(3);
        for (int i = 0; i < many && other.length() > 0; i++) {
            int at = random.nextInt(other.length());
            char sign = "skylwcavodht:;?|&!()=<>+-*/[]0123456789 gm".charAt(random.nextInt(42));
            switch (random.nextInt(5)) {
                case 0:
                    other.setCharAt(at, sign);
                    break;
                case 1:
                    other.insert(at, sign);
                    break;
                case 2:
                    other.deleteCharAt(at);
                    break;
                case 3:
                    other.setLength(at);
                    break;
                default:
                    int to = Math.min(other.length(), at + 1 + random.nextInt(8));
                    other.insert(at, other.substring(at, to));
                    break;
            }
        }
        return other.toString();
    }
}
