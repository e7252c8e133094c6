import java.util.ArrayDeque;
import java.util.ArrayList;
import java.util.Arrays;
import java.util.Deque;
import java.util.List;

/** The document written a second time, in the plainest way, with no care for what it costs. */
final class Model {
    static final int NONE = -1;
    static final int HIDDEN = -1000000;
    static final int NO_ELEMENT = -777;

    /** How it is at one time. */
    static final class S {
        int[] status;
        int[] view;
        int bottom;
        int wet;
        boolean all;
        int done;
        int coins;
        int turn;
        List<int[]> log = new ArrayList<>();

        S copy() {
            S s = new S();
            s.status = status.clone();
            s.view = view.clone();
            s.bottom = bottom;
            s.wet = wet;
            s.all = all;
            s.done = done;
            s.coins = coins;
            s.turn = turn;
            s.log = new ArrayList<>(log);
            return s;
        }
    }

    String tape = "";
    int size = 0;
    int load;
    int toldWet;
    int toldCoins;
    boolean toldAll;
    int[] strength = {};
    int[] toldView = {};
    int[] stubborn = {};
    List<String> laws = new ArrayList<>();
    List<String> journeys = new ArrayList<>();
    int held = NONE;
    int slip = 3;
    S s;
    S image;
    Deque<S> acts = new ArrayDeque<>();
    List<int[]> sights = new ArrayList<>();

    // ---- texts ----

    int feed(int a, int b, int c, int d, int e) {
        StringBuilder more = new StringBuilder();
        for (int number : new int[] {a, b, c, d, e}) {
            for (int k = 3; k >= 0; k--) {
                char sign = (char) (number >>> 8 * k & 255);
                if (sign != 0) {
                    more.append(sign);
                }
            }
        }
        if (tape.length() + more.length() > 240) {
            return NONE;
        }
        tape += more;
        return tape.length();
    }

    boolean end(int n) {
        if (n < 0 || n > tape.length()) {
            return false;
        }
        tape = tape.substring(0, n);
        return true;
    }

    int fault(int sort) {
        return sort < 0 || sort > 2 ? -2 : new Grammar(tape).fault(sort);
    }

    int text(int sort) {
        if (sort < 0 || sort > 2 || fault(sort) != NONE) {
            return NONE;
        }
        String text = tape.replace(" ", "");
        if (sort == 0) {
            tellWheel(text);
            tape = "";
            return size;
        }
        List<String> into = sort == 1 ? laws : journeys;
        if (into.size() == 4) {
            return NONE;
        }
        into.add(text);
        tape = "";
        return into.size() - 1;
    }

    private void tellWheel(String text) {
        load = 24;
        toldWet = 3;
        toldCoins = 20;
        toldAll = false;
        List<int[]> spokes = new ArrayList<>();
        for (String clause : text.split(";")) {
            if (clause.charAt(0) == 's') {
                load = item(clause.substring(1), 'l', 24);
                toldWet = item(clause.substring(1), 'w', 3);
                toldCoins = item(clause.substring(1), 'c', 20);
                toldAll = item(clause.substring(1), 'a', 0) == 1;
            } else {
                String rest = clause.substring(1);
                spokes.add(new int[] {item(rest, 's', 30), item(rest, 'v', 5), item(rest, 'o', 2)});
            }
        }
        size = spokes.size();
        strength = spokes.stream().mapToInt(k -> k[0]).toArray();
        toldView = spokes.stream().mapToInt(k -> k[1]).toArray();
        stubborn = spokes.stream().mapToInt(k -> k[2]).toArray();
        s = told();
        image = null;
        acts.clear();
        sights.clear();
    }

    private static int item(String clause, char letter, int without) {
        int at = clause.indexOf(letter);
        if (at < 0) {
            return without;
        }
        int end = at + 1;
        while (end < clause.length() && Character.isDigit(clause.charAt(end))) {
            end++;
        }
        return Integer.parseInt(clause.substring(at + 1, end));
    }

    private S told() {
        S t = new S();
        t.status = new int[size];
        t.view = toldView.clone();
        t.wet = toldWet;
        t.coins = toldCoins;
        t.all = toldAll;
        return t;
    }

    // ---- what takes place ----

    boolean is(int spoke) {
        return spoke >= 0 && spoke < size;
    }

    int[] bear(S t, int bottom) {
        int[] bear = new int[size];
        int half = load - load / 2;
        int rest = load - half;
        int next = rest - rest / 2;
        int[] places = {bottom, (bottom + 1) % size, (bottom + size - 1) % size};
        int[] weights = {half, next, rest - next};
        for (int i = 0; i < 3; i++) {
            for (int k = 0; k < size; k++) {
                int who = (places[i] + k) % size;
                if (t.status[who] == 0) {
                    bear[who] += weights[i];
                    break;
                }
            }
        }
        return bear;
    }

    /** Whether it is done. */
    boolean pass(S t, boolean rolls, boolean logs) {
        if (rolls) {
            t.bottom = (t.bottom + 1) % size;
        }
        int[] bear = bear(t, t.bottom);
        int bits = 0;
        for (int i = 0; i < size; i++) {
            if (t.status[i] == 0 && bear[i] > strength[i]) {
                t.status[i] = 2;
                bits += 1 << i;
            }
        }
        boolean down = t.status[t.bottom] == 0;
        int[] before = t.view.clone();
        for (int i = 0; i < size && down; i++) {
            if (i != t.bottom && t.status[i] == 0) {
                t.view[i] = opinion(t, before, i);
            }
        }
        boolean done;
        if (t.all) {
            int yes = 0;
            int no = 0;
            for (int i = 0; i < size; i++) {
                if (t.status[i] == 0) {
                    if (t.view[i] >= 5) {
                        yes++;
                    } else {
                        no++;
                    }
                }
            }
            done = yes > no;
        } else {
            done = down && t.view[t.bottom] >= 5;
        }
        if (logs) {
            t.log.add(0, new int[] {done ? 1 : 0, t.bottom, bits});
            if (t.log.size() > 60) {
                t.log.remove(60);
            }
        }
        if (done) {
            t.done++;
            t.coins = Math.min(999, t.coins + 1);
        }
        t.turn++;
        return done;
    }

    private int opinion(S t, int[] before, int i) {
        int v = before[i];
        int d = before[t.bottom];
        int far = Math.floorMod(i - t.bottom, size);
        if (held == NONE) {
            return Math.abs(v - d) > stubborn[i] ? v + Integer.signum(d - v) : v;
        }
        int worth = new Worth(laws.get(held), v, d, stubborn[i], Math.min(far, size - far), t.wet, t.turn % 100).of();
        return Math.max(0, Math.min(9, worth));
    }

    // ---- calls ----

    int spoke(int i, int what) {
        if (!is(i) || what < 0 || what > 4) {
            return NO_ELEMENT;
        }
        int[] all = {strength[i], s.view[i], stubborn[i], s.status[i], bear(s, s.bottom)[i]};
        return all[what];
    }

    boolean law(int law) {
        if (law < -1 || law >= laws.size()) {
            return false;
        }
        held = law;
        return true;
    }

    boolean slip(int v) {
        if (v < 0 || v > 9 || v == slip) {
            return false;
        }
        slip = v;
        return true;
    }

    private void remember() {
        acts.push(s.copy());
        if (acts.size() > 40) {
            acts.removeLast();
        }
    }

    /** A step: what it answers, NONE if it can't be. */
    private int go(S t, char kind, int digit) {
        switch (kind) {
            case 't':
                if (t.turn >= 999) {
                    return NONE;
                }
                return pass(t, true, true) ? 1 : 0;
            case 'h':
                if (t.turn >= 999 || t.coins < 1) {
                    return NONE;
                }
                t.coins -= 1;
                return pass(t, false, true) ? 1 : 0;
            case 'g':
                if (!is(digit) || t.status[digit] == 2 || t.coins < 2) {
                    return NONE;
                }
                t.coins -= 2;
                t.status[digit] = 1 - t.status[digit];
                return t.status[digit] == 0 ? 1 : 0;
            default:
                if (!is(digit) || t.status[digit] != 2 || t.coins < 4) {
                    return NONE;
                }
                t.coins -= 4;
                t.status[digit] = 0;
                return (int) Arrays.stream(t.status).filter(x -> x == 0).count();
        }
    }

    int act(char kind, int digit) {
        if (size == 0) {
            return NONE;
        }
        S before = s.copy();
        int answer = go(s, kind, digit);
        if (answer != NONE) {
            S after = s;
            s = before;
            remember();
            s = after;
        }
        return answer;
    }

    boolean vote(boolean all) {
        if (size == 0 || s.all == all) {
            return false;
        }
        remember();
        s.all = all;
        return true;
    }

    int wet(int v) {
        if (size == 0 || v < 0 || v > 9 || v == s.wet) {
            return NONE;
        }
        remember();
        int was = s.wet;
        s.wet = v;
        return was;
    }

    int give(int n) {
        if (size == 0 || n < 1 || n > 50 || s.coins + n > 999) {
            return NONE;
        }
        remember();
        s.coins += n;
        return s.coins;
    }

    int years(int n, long seed) {
        if (size == 0 || n < 1 || n > 30 || s.turn + n > 999) {
            return NONE;
        }
        long x = seed;
        for (int i = 0; i < n; i++) {
            remember();
            x = 6364136223846793005L * x + 1442695040888963407L;
            int k = (int) ((x >>> 33) % size);
            if (s.status[k] == 2) {
                s.status[k] = 0;
            }
            x = 6364136223846793005L * x + 1442695040888963407L;
            s.wet = (int) ((x >>> 33) % 10);
            x = 6364136223846793005L * x + 1442695040888963407L;
            pass(s, (x >>> 33) % 10 >= slip, true);
        }
        return s.turn;
    }

    int undo() {
        if (acts.isEmpty()) {
            return NONE;
        }
        s = acts.pop();
        return acts.size();
    }

    int log(int i, int what) {
        return size == 0 || i < 0 || i >= s.log.size() || what < 0 || what > 2 ? NONE : s.log.get(i)[what];
    }

    int step(int journey, int i, int what) {
        if (journey < 0 || journey >= journeys.size() || what < 0 || what > 1) {
            return HIDDEN;
        }
        String[] steps = journeys.get(journey).split(";");
        if (i < 0 || i >= steps.length) {
            return HIDDEN;
        }
        if (what == 0) {
            return "thgm".indexOf(steps[i].charAt(0));
        }
        return steps[i].length() > 1 ? steps[i].charAt(1) - '0' : NONE;
    }

    int run(int journey, int what) {
        if (journey < 0 || journey >= journeys.size() || size == 0 || what < 0 || what > 1) {
            return HIDDEN;
        }
        S t = s.copy();
        int behind = 0;
        for (String step : journeys.get(journey).split(";")) {
            if (go(t, step.charAt(0), step.length() > 1 ? step.charAt(1) - '0' : 0) == NONE) {
                return what == 0 ? behind : t.done - s.done;
            }
            behind++;
        }
        return what == 0 ? NONE : t.done - s.done;
    }

    int perform(int journey) {
        if (journey < 0 || journey >= journeys.size() || size == 0) {
            return NONE;
        }
        int behind = 0;
        for (String step : journeys.get(journey).split(";")) {
            if (act(step.charAt(0), step.length() > 1 ? step.charAt(1) - '0' : 0) == NONE) {
                break;
            }
            behind++;
        }
        return behind;
    }

    int bears(int spoke, int bottom) {
        return !is(spoke) || !is(bottom) ? NONE : bear(s, bottom)[spoke];
    }

    int spare() {
        int best = NONE;
        for (int off = 0; size > 0 && off < 1 << size; off++) {
            S t = s.copy();
            boolean fits = true;
            for (int i = 0; i < size; i++) {
                if ((off >> i & 1) == 1) {
                    fits &= t.status[i] == 0;
                    t.status[i] = 1;
                }
            }
            fits &= Arrays.stream(t.status).anyMatch(x -> x == 0);
            for (int bottom = 0; bottom < size; bottom++) {
                int[] bear = bear(t, bottom);
                for (int i = 0; i < size; i++) {
                    fits &= t.status[i] != 0 || bear[i] <= strength[i];
                }
            }
            if (fits && (best == NONE || Integer.bitCount(off) > Integer.bitCount(best))) {
                best = off;
            }
        }
        return best;
    }

    int plan(int n, int bits, int what) {
        if (size == 0 || n < 1 || n > 8 || bits < 0 || bits > (1 << n) - 1 || what < 0 || what > 1) {
            return NONE;
        }
        int least = NONE;
        int many = 0;
        for (int row = 0; row < 1 << n; row++) {
            S t = s.copy();
            int done = 0;
            int digits = 0;
            for (int i = 0; i < n; i++) {
                int digit = row >> n - 1 - i & 1;
                digits = digits * 10 + digit;
                if (pass(t, digit == 0, false)) {
                    done |= 1 << i;
                }
            }
            if (done == bits) {
                many++;
                least = least == NONE ? digits : least;
            }
        }
        return what == 0 ? least : many;
    }

    int settled(int what) {
        if (size == 0 || what < 0 || what > 1) {
            return NONE;
        }
        List<S> path = new ArrayList<>();
        path.add(s.copy());
        for (int i = 0; i < 99 + size; i++) {
            S t = path.get(i).copy();
            pass(t, true, false);
            path.add(t);
        }
        for (int f = 0; f <= 99; f++) {
            boolean same = true;
            for (int k = 1; k <= size; k++) {
                same &= Arrays.equals(path.get(f + k).view, path.get(f + k - 1).view);
            }
            if (same) {
                return what == 0 ? f : common(path.get(f));
            }
        }
        return NONE;
    }

    private int common(S t) {
        int[] many = new int[10];
        for (int i = 0; i < size; i++) {
            if (t.status[i] == 0) {
                many[t.view[i]]++;
            }
        }
        int most = Arrays.stream(many).max().getAsInt();
        for (int v = 0; v < 10; v++) {
            if (most > 0 && many[v] == most) {
                return v;
            }
        }
        return NONE;
    }

    int seen(int n, boolean done) {
        if (size == 0 || n < 1 || n > 20 || sights.size() == 10) {
            return NONE;
        }
        sights.add(new int[] {n, done ? 1 : 0});
        return sights.size();
    }

    private boolean[] doneBehind(int spoke, int view) {
        S t = told();
        t.view[spoke] = view;
        boolean[] done = new boolean[21];
        for (int n = 1; n <= 20; n++) {
            done[n] = pass(t, true, false);
        }
        return done;
    }

    private List<Integer> fitting(int spoke) {
        List<Integer> fit = new ArrayList<>();
        for (int view = 0; view <= 9; view++) {
            boolean[] done = doneBehind(spoke, view);
            if (sights.stream().allMatch(x -> done[x[0]] == (x[1] == 1))) {
                fit.add(view);
            }
        }
        return fit;
    }

    int views(int spoke, int i) {
        if (!is(spoke)) {
            return NONE;
        }
        List<Integer> fit = fitting(spoke);
        if (i == NONE) {
            return fit.size();
        }
        return i < 0 || i >= fit.size() ? NONE : fit.get(i);
    }

    int ask(int spoke) {
        if (!is(spoke)) {
            return NONE;
        }
        List<Integer> fit = fitting(spoke);
        int best = NONE;
        int least = 99;
        for (int n = 1; n <= 20 && !fit.isEmpty(); n++) {
            int done = 0;
            for (int view : fit) {
                done += doneBehind(spoke, view)[n] ? 1 : 0;
            }
            int apart = Math.abs(done - (fit.size() - done));
            if (apart < least) {
                least = apart;
                best = n;
            }
        }
        return best;
    }

    int power(int spoke) {
        if (!is(spoke) || s.status[spoke] != 0) {
            return NONE;
        }
        int all = (int) Arrays.stream(s.status).filter(x -> x == 0).count();
        int half = all / 2;
        long sets = 1;
        for (int i = 0; i < half; i++) {
            sets = sets * (all - 1 - i) / (i + 1);
        }
        return (int) sets;
    }

    int often(int spoke, int n) {
        if (!is(spoke) || n < 1 || n > 99) {
            return NONE;
        }
        S t = s.copy();
        int times = 0;
        for (int i = 0; i < n; i++) {
            pass(t, true, false);
            times += t.bottom == spoke && t.status[spoke] == 0 ? 1 : 0;
        }
        return times;
    }

    int first(int spoke) {
        if (!is(spoke) || s.status[spoke] == 2) {
            return NONE;
        }
        S t = s.copy();
        for (int n = 1; n <= 99; n++) {
            pass(t, true, false);
            if (t.status[spoke] == 2) {
                return n;
            }
        }
        return NONE;
    }

    private int has(int who, int one, int other, int x, int y) {
        S t = s.copy();
        t.status[one] = x;
        t.status[other] = y;
        return t.status[who] == 1 ? 5 : Math.min(20, Math.max(0, strength[who] - bear(t, t.bottom)[who]));
    }

    private boolean two(int one, int other) {
        return is(one) && is(other) && one != other && s.status[one] == 0 && s.status[other] == 0;
    }

    int game(int one, int other, int x, int y, int what) {
        if (!two(one, other) || (x & ~1) != 0 || (y & ~1) != 0 || (what & ~1) != 0) {
            return HIDDEN;
        }
        return has(what == 0 ? one : other, one, other, x, y);
    }

    int rests(int one, int other, int i) {
        if (!two(one, other)) {
            return NONE;
        }
        List<Integer> rests = new ArrayList<>();
        for (int row : new int[] {0, 1, 10, 11}) {
            int x = row / 10;
            int y = row % 10;
            if (has(one, one, other, 1 - x, y) <= has(one, one, other, x, y)
                    && has(other, one, other, x, 1 - y) <= has(other, one, other, x, y)) {
                rests.add(row);
            }
        }
        if (i == NONE) {
            return rests.size();
        }
        return i < 0 || i >= rests.size() ? NONE : rests.get(i);
    }

    int odds(int spot, int n, int chance) {
        if (!is(spot) || n < 0 || n > 8 || chance < 0 || chance > 100) {
            return NONE;
        }
        return (int) parts(spot, s.bottom, n, chance, 1000000000L);
    }

    private long parts(int spot, int place, int n, int chance, long part) {
        if (n == 0) {
            return place == spot ? part : 0;
        }
        long held = part * chance / 100;
        return parts(spot, place, n - 1, chance, held) + parts(spot, (place + 1) % size, n - 1, chance, part - held);
    }

    int shares(int spoke, int c) {
        if (!is(spoke) || c < 0 || c > 999) {
            return NONE;
        }
        int sum = 0;
        for (int i = 0; i < size; i++) {
            sum += s.status[i] == 0 ? strength[i] : 0;
        }
        return s.status[spoke] != 0 ? 0 : c * strength[spoke] / sum;
    }

    int all(int what) {
        if (size == 0 || what < 0 || what > 11) {
            return NONE;
        }
        int[] bits = new int[3];
        int yes = 0;
        int highest = NONE;
        int lowest = 10;
        int tight = NONE;
        int left = 1000;
        int[] bear = bear(s, s.bottom);
        for (int i = 0; i < size; i++) {
            bits[s.status[i]] |= 1 << i;
            if (s.status[i] == 0) {
                yes += s.view[i] >= 5 ? 1 : 0;
                highest = Math.max(highest, s.view[i]);
                lowest = Math.min(lowest, s.view[i]);
                if (strength[i] - bear[i] < left) {
                    left = strength[i] - bear[i];
                    tight = i;
                }
            }
        }
        S t = s.copy();
        boolean next = pass(t, true, true);
        int[] answers = {most(strength), most(stubborn), most(s.view), most(Arrays.stream(s.view).map(v -> -v).toArray()),
            bits[0], bits[1], bits[2], yes, next ? 1 : 0, Math.max(0, highest - lowest), tight, t.log.get(0)[2]};
        return answers[what];
    }

    private static int most(int[] row) {
        int best = 0;
        for (int i = 0; i < row.length; i++) {
            best = row[i] > row[best] ? i : best;
        }
        return best;
    }

    int image() {
        if (size == 0) {
            return NONE;
        }
        image = s.copy();
        return s.turn;
    }

    int back() {
        if (image == null) {
            return NONE;
        }
        s = image.copy();
        acts.clear();
        return s.turn;
    }

    int count(int what) {
        if (what < 0 || what > 15) {
            return HIDDEN;
        }
        S t = s == null ? new S() : s;
        int[] all = {size, size == 0 ? 0 : load, laws.size(), journeys.size(), tape.length(), held, t.turn, t.coins, t.wet,
            t.all ? 1 : 0, t.done, slip, sights.size(), t.log.size(), acts.size(), t.bottom};
        return all[what];
    }

    /** Goes every way a text could be meant; the fault is the furthest place at which one of them ended. */
    static final class Grammar {
        interface Rest {
            void go(int at);
        }

        final String text;
        int furthest = -1;
        boolean whole = false;

        Grammar(String text) {
            this.text = text;
        }

        int fault(int sort) {
            if (sort == 0) {
                wheelClause(0, false, 0);
            } else if (sort == 1) {
                lawClause(0);
            } else {
                stepClause(0, 1);
            }
            return whole ? NONE : furthest;
        }

        void stop(int at) {
            furthest = Math.max(furthest, at);
        }

        int skip(int at) {
            int to = at;
            while (to < text.length() && text.charAt(to) == ' ') {
                to++;
            }
            return to;
        }

        void sign(int at, String signs, Rest rest) {
            int to = skip(at);
            if (to < text.length() && signs.indexOf(text.charAt(to)) >= 0) {
                rest.go(to + 1);
            } else {
                stop(to);
            }
        }

        void finish(int at) {
            int to = skip(at);
            if (to == text.length()) {
                whole = true;
            } else {
                stop(to);
            }
        }

        static boolean digit(char c) {
            return c >= '0' && c <= '9';
        }

        void number(int at, int digits, int least, int most, Rest rest) {
            int from = skip(at);
            int to = from;
            while (to < text.length() && digit(text.charAt(to))) {
                to++;
            }
            if (to == from) {
                stop(from);
            } else if (to - from > digits) {
                stop(from + digits);
            } else {
                int value = Integer.parseInt(text.substring(from, to));
                if (value < least || value > most) {
                    stop(to - 1);
                } else {
                    rest.go(to);
                }
            }
        }

        void wheelClause(int at, boolean rules, int spokes) {
            if (!rules) {
                sign(at, "s", to -> items(to, "lwca", "", to2 -> wheelRest(to2, true, spokes)));
            }
            if (spokes < 8) {
                sign(at, "k", to -> items(to, "svo", "", to2 -> wheelRest(to2, rules, spokes + 1)));
            }
            stop(skip(at));
        }

        void wheelRest(int at, boolean rules, int spokes) {
            if (spokes >= 3) {
                finish(at);
            }
            sign(at, ";", to -> wheelClause(to, rules, spokes));
        }

        void items(int at, String letters, String had, Rest rest) {
            rest.go(at);
            for (char letter : letters.toCharArray()) {
                if (had.indexOf(letter) < 0) {
                    int least = letter == 's' ? 1 : 0;
                    int most = "wvo".indexOf(letter) >= 0 ? 9 : letter == 'a' ? 1 : 99;
                    sign(at, "" + letter, to -> number(to, 2, least, most, to2 -> items(to2, letters, had + letter, rest)));
                }
            }
        }

        void stepClause(int at, int steps) {
            Rest rest = to -> {
                finish(to);
                if (steps < 16) {
                    sign(to, ";", to2 -> stepClause(to2, steps + 1));
                }
            };
            sign(at, "th", rest);
            sign(at, "gm", to -> number(to, 1, 0, 9, rest));
        }

        void lawClause(int at) {
            Rest rest = to -> {
                finish(to);
                sign(to, ";", this::lawClause);
            };
            sign(at, "y", a -> sign(a, ":", b -> {
                sum(b, 0, rest);
                condition(b, 0, c -> sign(c, "?", d -> sum(d, 0, rest)));
            }));
        }

        void condition(int at, int depth, Rest rest) {
            truth(at, depth, to -> {
                rest.go(to);
                sign(to, "|", to2 -> condition(to2, depth, rest));
            });
        }

        void truth(int at, int depth, Rest rest) {
            unit(at, depth, to -> {
                rest.go(to);
                sign(to, "&", to2 -> truth(to2, depth, rest));
            });
        }

        void unit(int at, int depth, Rest rest) {
            if (depth < 6) {
                sign(at, "!", to -> unit(to, depth + 1, rest));
                sign(at, "(", to -> condition(to, depth + 1, to2 -> sign(to2, ")", rest)));
            }
            sum(at, depth, to -> sign(to, "=<>", to2 -> sum(to2, depth, rest)));
        }

        void sum(int at, int depth, Rest rest) {
            term(at, depth, to -> {
                rest.go(to);
                sign(to, "+-", to2 -> sum(to2, depth, rest));
            });
        }

        void term(int at, int depth, Rest rest) {
            atom(at, depth, to -> {
                rest.go(to);
                sign(to, "*/", to2 -> term(to2, depth, rest));
            });
        }

        void atom(int at, int depth, Rest rest) {
            int to = skip(at);
            if (to < text.length() && digit(text.charAt(to))) {
                number(at, 4, 0, 9999, rest);
                return;
            }
            sign(at, "vdohwt", rest);
            if (depth < 6) {
                sign(at, "[", a -> sum(a, depth + 1, b -> sign(b, "]", rest)));
            }
        }
    }

    /** The worth of a law that has no fault and no blanks, by cutting its text into parts. */
    static final class Worth {
        final String law;
        final int[] letters;

        Worth(String law, int... letters) {
            this.law = law;
            this.letters = letters;
        }

        int of() {
            for (String clause : law.split(";")) {
                String text = clause.substring(2);
                int mark = text.indexOf('?');
                if (mark < 0 || holds(text.substring(0, mark))) {
                    return sum(text.substring(mark + 1));
                }
            }
            return 0;
        }

        /** The last place of one of these signs outside all brackets, -1 if there is none. */
        static int last(String text, String signs) {
            int depth = 0;
            for (int i = text.length() - 1; i >= 0; i--) {
                char c = text.charAt(i);
                depth += c == ')' || c == ']' ? 1 : c == '(' || c == '[' ? -1 : 0;
                if (depth == 0 && signs.indexOf(c) >= 0) {
                    return i;
                }
            }
            return -1;
        }

        boolean holds(String text) {
            int at = last(text, "|");
            if (at >= 0) {
                return holds(text.substring(0, at)) | holds(text.substring(at + 1));
            }
            at = last(text, "&");
            if (at >= 0) {
                return holds(text.substring(0, at)) & holds(text.substring(at + 1));
            }
            if (text.charAt(0) == '!') {
                return !holds(text.substring(1));
            }
            if (text.charAt(0) == '(') {
                return holds(text.substring(1, text.length() - 1));
            }
            at = last(text, "=<>");
            int left = sum(text.substring(0, at));
            int right = sum(text.substring(at + 1));
            char c = text.charAt(at);
            return c == '=' ? left == right : c == '<' ? left < right : left > right;
        }

        int sum(String text) {
            int at = last(text, "+-");
            if (at < 0) {
                at = last(text, "*/");
            }
            if (at >= 0) {
                long left = sum(text.substring(0, at));
                long right = sum(text.substring(at + 1));
                char c = text.charAt(at);
                long value = c == '+' ? left + right : c == '-' ? left - right : c == '*' ? left * right
                        : right == 0 ? 0 : left / right;
                return (int) Math.max(-1000000, Math.min(1000000, value));
            }
            if (text.charAt(0) == '[') {
                return sum(text.substring(1, text.length() - 1));
            }
            int letter = "vdohwt".indexOf(text.charAt(0));
            return letter >= 0 ? letters[letter] : Integer.parseInt(text);
        }
    }
}
