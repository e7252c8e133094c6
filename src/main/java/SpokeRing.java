import java.util.NoSuchElementException;

/** A wheel whose spokes are in conference; see README.md. */
public final class SpokeRing {
    public static final int NONE = -1;
    public static final int HIDDEN = -1000000;

    private static final int TAPE_BYTES = 240;
    private static final int END = -1;
    private static final int BLANK = 32;

    private static final int FEWEST_SPOKES = 3;
    private static final int MOST_SPOKES = 8;
    private static final int MOST_VIEW = 9;
    private static final int FAVOUR = 5;
    private static final int MOST_WET = 9;
    private static final int MOST_SLIP = 9;
    private static final int FIRST_SLIP = 3;
    private static final int MOST_COINS = 999;
    private static final int LAST_TURN = 999;
    private static final int LOG_ROWS = 60;
    private static final int MOST_ACTS = 40;
    private static final int MOST_TEXTS = 4;
    private static final int MOST_STEPS = 16;
    private static final int DEEPEST = 6;
    private static final int MOST_SEEN = 10;
    private static final int SEEN_TURNS = 20;
    private static final int FAR = 99;
    private static final int PLAN_TURNS = 8;
    private static final int MOST_GIFT = 50;
    private static final int MOST_YEARS = 30;
    private static final int MOST_REST = 20;
    private static final int REST_OFF = 5;
    private static final int ALL_PARTS = 1000000000;

    private static final int WHEEL_TEXT = 0;
    private static final int LAW_TEXT = 1;
    private static final int JOURNEY_TEXT = 2;

    private static final int TURNED = 0;
    private static final int HELD = 1;
    private static final int AWAY = 2;
    private static final int MENDED = 3;
    private static final String STEP_SIGNS = "thgm";

    private static final int HOLD_COST = 1;
    private static final int AWAY_COST = 2;
    private static final int MEND_COST = 4;

    private static final int LOAD = 0;
    private static final int WET = 1;
    private static final int COINS = 2;
    private static final int TOGETHER = 3;
    private static final String RULE_SIGNS = "lwca";
    private static final int[] RULE_USUAL = {24, 3, 20, 0};
    private static final int[] RULE_LEAST = {0, 0, 0, 0};
    private static final int[] RULE_MOST = {99, 9, 99, 1};

    private static final int STRENGTH = 0;
    private static final int VIEW = 1;
    private static final int STUBBORN = 2;
    private static final String SPOKE_SIGNS = "svo";
    private static final int[] SPOKE_USUAL = {30, 5, 2};
    private static final int[] SPOKE_LEAST = {1, 0, 0};
    private static final int[] SPOKE_MOST = {99, 9, 9};

    private final Tape tape;
    private final Wheel told;
    private final Wheel draft;
    private final Law[] laws;
    private final LawReader lawReader;
    private int lawCount;
    private int lawHeld;
    private final Journey[] journeys;
    private final Journey journeyDraft;
    private int journeyCount;
    private int slippery;
    private final State now;
    private final State trial;
    private final State kept;
    private boolean imaged;
    private final Acts acts;
    private final Sights sights;
    private final Plan planned;

    public SpokeRing() {
        tape = new Tape();
        told = new Wheel();
        draft = new Wheel();
        laws = new Law[MOST_TEXTS];
        journeys = new Journey[MOST_TEXTS];
        for (int i = 0; i < MOST_TEXTS; i++) {
            laws[i] = new Law();
            journeys[i] = new Journey();
        }
        lawReader = new LawReader(tape);
        journeyDraft = new Journey();
        lawHeld = NONE;
        slippery = FIRST_SLIP;
        now = new State();
        trial = new State();
        kept = new State();
        acts = new Acts();
        sights = new Sights();
        planned = new Plan(told);
    }

    // ---- texts ----

    public int feed(int a, int b, int c, int d, int e) {
        int more = bytesIn(a) + bytesIn(b) + bytesIn(c) + bytesIn(d) + bytesIn(e);
        if (tape.length + more > TAPE_BYTES) {
            return NONE;
        }
        tape.add(a);
        tape.add(b);
        tape.add(c);
        tape.add(d);
        tape.add(e);
        return tape.length;
    }

    private static int bytesIn(int number) {
        int bytes = 0;
        for (int shift = 24; shift >= 0; shift -= 8) {
            if ((number >>> shift & 255) != 0) {
                bytes++;
            }
        }
        return bytes;
    }

    public boolean end(int n) {
        if (n < 0 || n > tape.length) {
            return false;
        }
        tape.length = n;
        return true;
    }

    public int fault(int sort) {
        if (sort < WHEEL_TEXT || sort > JOURNEY_TEXT) {
            return -2;
        }
        return reads(sort) ? NONE : tape.fault;
    }

    public int text(int sort) {
        if (sort < WHEEL_TEXT || sort > JOURNEY_TEXT || !reads(sort)) {
            return NONE;
        }
        int answer;
        if (sort == WHEEL_TEXT) {
            answer = takeWheel();
        } else if (sort == LAW_TEXT) {
            answer = takeLaw();
        } else {
            answer = takeJourney();
        }
        if (answer != NONE) {
            tape.length = 0;
        }
        return answer;
    }

    private boolean reads(int sort) {
        if (sort == WHEEL_TEXT) {
            return readWheel(tape, draft);
        }
        return sort == LAW_TEXT ? lawReader.read() : readJourney(tape, journeyDraft);
    }

    private int takeWheel() {
        told.copy(draft);
        now.begin(told);
        acts.clear();
        sights.clear();
        imaged = false;
        return told.size;
    }

    private int takeLaw() {
        if (lawCount >= MOST_TEXTS) {
            return NONE;
        }
        laws[lawCount].copy(lawReader.law);
        lawCount++;
        return lawCount - 1;
    }

    private int takeJourney() {
        if (journeyCount >= MOST_TEXTS) {
            return NONE;
        }
        journeys[journeyCount].copy(journeyDraft);
        journeyCount++;
        return journeyCount - 1;
    }

    private static boolean readWheel(Tape tape, Wheel wheel) {
        wheel.clear();
        tape.begin();
        boolean rules = false;
        boolean more = true;
        for (int i = 0; more && i < TAPE_BYTES; i++) {
            int sign = tape.sign();
            if (sign == 's' && !rules) {
                rules = true;
                tape.next();
                if (!readItems(tape, RULE_SIGNS, RULE_LEAST, RULE_MOST, wheel.rule)) {
                    return false;
                }
            } else if (sign == 'k' && wheel.size < MOST_SPOKES) {
                tape.next();
                wheel.usualSpoke();
                if (!readItems(tape, SPOKE_SIGNS, SPOKE_LEAST, SPOKE_MOST, wheel.item)) {
                    return false;
                }
                wheel.addSpoke();
            } else {
                return tape.fail();
            }
            more = tape.take(';');
        }
        return tape.sign() == END && wheel.size >= FEWEST_SPOKES || tape.fail();
    }

    private static boolean readItems(Tape tape, String signs, int[] least, int[] most, int[] into) {
        int had = 0;
        for (int i = 0; i < signs.length(); i++) {
            int sign = tape.sign();
            int which = sign == END ? NONE : signs.indexOf((char) sign);
            if (which < 0) {
                break;
            }
            if ((had >> which & 1) != 0 || which >= into.length) {
                return tape.fail();
            }
            had |= 1 << which;
            tape.next();
            int value = tape.number(2, least[which], most[which]);
            if (value < 0) {
                return false;
            }
            into[which] = value;
        }
        return tape.sign() == END || tape.sign() == ';' || tape.fail();
    }

    private static boolean readJourney(Tape tape, Journey journey) {
        journey.size = 0;
        tape.begin();
        boolean more = true;
        for (int i = 0; more && i < MOST_STEPS; i++) {
            int sign = tape.sign();
            int kind = sign == END ? NONE : STEP_SIGNS.indexOf((char) sign);
            if (kind < 0) {
                return tape.fail();
            }
            tape.next();
            int digit = NONE;
            if (kind == AWAY || kind == MENDED) {
                digit = tape.number(1, 0, 9);
                if (digit < 0) {
                    return false;
                }
            }
            journey.add(kind, digit);
            // the ; ahead of a 17th step is left where it is: it is the fault
            more = journey.size < MOST_STEPS && tape.take(';');
        }
        return tape.sign() == END || tape.fail();
    }

    // ---- what is asked often ----

    private boolean hasWheel() {
        return told.size > 0;
    }

    private boolean isSpoke(int number) {
        return number >= 0 && number < told.size;
    }

    private boolean areTwoOn(int one, int other) {
        return isSpoke(one) && isSpoke(other) && one != other && now.isOn(one) && now.isOn(other);
    }

    private Law lawNow() {
        return lawHeld >= 0 && lawHeld < lawCount ? laws[lawHeld] : null;
    }

    private static int flag(boolean is) {
        return is ? 1 : 0;
    }

    public int spoke(int spoke, int what) throws NoSuchElementException {
        if (!isSpoke(spoke) || what < 0 || what > 4) {
            throw new NoSuchElementException("no such spoke or nothing such of it");
        }
        switch (what) {
            case 0:
                return told.strength[spoke];
            case 1:
                return now.view[spoke];
            case 2:
                return told.stubborn[spoke];
            case 3:
                return now.isOn(spoke) ? 0 : now.isBroken(spoke) ? 2 : 1;
            default:
                now.weigh(told, now.on, now.bottom);
                return now.isOn(spoke) ? now.bear[spoke] : 0;
        }
    }

    public boolean law(int law) {
        if (law < NONE || law >= lawCount) {
            return false;
        }
        lawHeld = law;
        return true;
    }

    public boolean slip(int v) {
        if (v < 0 || v > MOST_SLIP || v == slippery) {
            return false;
        }
        slippery = v;
        return true;
    }

    // ---- acts ----

    public int turn() {
        return byHand(TURNED, NONE) ? flag(now.wasDone) : NONE;
    }

    public int hold() {
        return byHand(HELD, NONE) ? flag(now.wasDone) : NONE;
    }

    public int away(int spoke) {
        return byHand(AWAY, spoke) ? flag(now.isOn(spoke)) : NONE;
    }

    public int mend(int spoke) {
        return byHand(MENDED, spoke) ? Integer.bitCount(now.on) : NONE;
    }

    private boolean byHand(int kind, int digit) {
        if (!hasWheel() || !canBe(now, kind, digit)) {
            return false;
        }
        acts.push(now);
        take(now, kind, digit);
        return true;
    }

    private boolean canBe(State state, int kind, int digit) {
        switch (kind) {
            case TURNED:
                return state.turn < LAST_TURN;
            case HELD:
                return state.turn < LAST_TURN && state.coins >= HOLD_COST;
            case AWAY:
                return isSpoke(digit) && !state.isBroken(digit) && state.coins >= AWAY_COST;
            case MENDED:
                return isSpoke(digit) && state.isBroken(digit) && state.coins >= MEND_COST;
            default:
                return false;
        }
    }

    private void take(State state, int kind, int digit) {
        switch (kind) {
            case TURNED:
                state.pass(TURNED, told, lawNow());
                state.note();
                break;
            case HELD:
                state.coins -= HOLD_COST;
                state.pass(HELD, told, lawNow());
                state.note();
                break;
            case AWAY:
                state.coins -= AWAY_COST;
                state.on ^= 1 << digit;
                break;
            default:
                state.coins -= MEND_COST;
                state.heal(digit);
                break;
        }
    }

    public boolean vote(boolean all) {
        if (!hasWheel() || now.together == all) {
            return false;
        }
        acts.push(now);
        now.together = all;
        return true;
    }

    public int wet(int v) {
        if (!hasWheel() || v < 0 || v > MOST_WET || v == now.wet) {
            return NONE;
        }
        int was = now.wet;
        acts.push(now);
        now.wet = v;
        return was;
    }

    public int give(int n) {
        if (!hasWheel() || n < 1 || n > MOST_GIFT || now.coins + n > MOST_COINS) {
            return NONE;
        }
        acts.push(now);
        now.coins += n;
        return now.coins;
    }

    public int years(int n, long seed) {
        if (!hasWheel() || n < 1 || n > MOST_YEARS || now.turn + n > LAST_TURN) {
            return NONE;
        }
        long x = seed;
        for (int i = 0; i < n; i++) {
            acts.push(now);
            x = drawn(x);
            int hurt = drawnBelow(x, told.size);
            if (now.isBroken(hurt)) {
                now.heal(hurt);
            }
            x = drawn(x);
            now.wet = drawnBelow(x, 10);
            x = drawn(x);
            now.pass(drawnBelow(x, 10) < slippery ? HELD : TURNED, told, lawNow());
            now.note();
        }
        return now.turn;
    }

    private static long drawn(long x) {
        return x * 6364136223846793005L + 1442695040888963407L;
    }

    private static int drawnBelow(long x, int j) {
        return j > 0 ? (int) ((x >>> 33) % j) : 0;
    }

    public int undo() {
        if (acts.size <= 0) {
            return NONE;
        }
        acts.pop(now);
        return acts.size;
    }

    public int log(int i, int what) {
        if (i < 0 || i >= now.logLength() || what < 0 || what > 2) {
            return NONE;
        }
        int row = now.logRow(i);
        if (what == 0) {
            return row & 1;
        }
        return what == 1 ? row >> 1 & 7 : row >> 4;
    }

    // ---- journeys ----

    private boolean isJourney(int number) {
        return number >= 0 && number < journeyCount;
    }

    public int step(int journey, int i, int what) {
        if (!isJourney(journey) || what < 0 || what > 1) {
            return HIDDEN;
        }
        Journey way = journeys[journey];
        if (i < 0 || i >= way.size) {
            return HIDDEN;
        }
        return what == 0 ? way.kind[i] : way.digit[i];
    }

    public int run(int journey, int what) {
        if (!isJourney(journey) || !hasWheel() || what < 0 || what > 1) {
            return HIDDEN;
        }
        Journey way = journeys[journey];
        trial.follow(now);
        int steps = 0;
        for (int i = 0; i < way.size && canBe(trial, way.kind[i], way.digit[i]); i++) {
            take(trial, way.kind[i], way.digit[i]);
            steps++;
        }
        if (what == 1) {
            return trial.done - now.done;
        }
        return steps < way.size ? steps : NONE;
    }

    public int perform(int journey) {
        if (!isJourney(journey) || !hasWheel()) {
            return NONE;
        }
        Journey way = journeys[journey];
        int steps = 0;
        for (int i = 0; i < way.size && byHand(way.kind[i], way.digit[i]); i++) {
            steps++;
        }
        return steps;
    }

    // ---- the weight ----

    public int bears(int spoke, int bottom) {
        if (!isSpoke(spoke) || !isSpoke(bottom)) {
            return NONE;
        }
        trial.weigh(told, now.on, bottom);
        return now.isOn(spoke) ? trial.bear[spoke] : 0;
    }

    public int spare() {
        int most = NONE;
        int best = NONE;
        for (int off = 0; off < now.on; off++) {
            int many = Integer.bitCount(off);
            if ((off & ~now.on) == 0 && many > most && holdsEverywhere(now.on & ~off)) {
                most = many;
                best = off;
            }
        }
        return best;
    }

    private boolean holdsEverywhere(int on) {
        for (int bottom = 0; bottom < told.size; bottom++) {
            if (trial.overloaded(told, on, bottom) != 0) {
                return false;
            }
        }
        return true;
    }

    // ---- what comes ----

    public int plan(int n, int bits, int what) {
        if (!hasWheel() || n < 1 || n > PLAN_TURNS || what < 0 || what > 1) {
            return NONE;
        }
        if (bits < 0 || bits >= 1 << n) {
            return NONE;
        }
        planned.begin(lawNow(), now);
        planned.turns = n;
        planned.bits = bits;
        goOn(planned, 0, 0);
        return what == 0 ? planned.least : planned.many;
    }

    private static void goOn(Plan plan, int depth, int row) {
        if (depth >= plan.turns || depth >= PLAN_TURNS) {
            plan.found(row);
            return;
        }
        State next = plan.states[depth + 1];
        boolean wanted = (plan.bits >> depth & 1) != 0;
        for (int digit = TURNED; digit <= HELD; digit++) {
            next.follow(plan.states[depth]);
            next.pass(digit, plan.wheel, plan.law);
            if (next.wasDone == wanted) {
                goOn(plan, depth + 1, row * 10 + digit);
            }
        }
    }

    public int settled(int what) {
        if (!hasWheel() || what < 0 || what > 1) {
            return NONE;
        }
        trial.follow(now);
        int fewest = 0;
        int common = trial.commonView(told.size);
        int quiet = 0;
        for (int n = 1; n <= FAR + MOST_SPOKES && quiet < told.size; n++) {
            trial.pass(TURNED, told, lawNow());
            quiet++;
            if (trial.changed) {
                quiet = 0;
                fewest = n;
                common = trial.commonView(told.size);
            }
        }
        if (quiet < told.size || fewest > FAR) {
            return NONE;
        }
        return what == 0 ? fewest : common;
    }

    public int seen(int n, boolean done) {
        if (!hasWheel() || n < 1 || n > SEEN_TURNS || sights.count >= MOST_SEEN) {
            return NONE;
        }
        sights.add(n, done);
        return sights.count;
    }

    public int views(int spoke, int i) {
        if (!isSpoke(spoke) || i < NONE) {
            return NONE;
        }
        int fitting = 0;
        for (int view = 0; view <= MOST_VIEW; view++) {
            if (sights.fit(pattern(spoke, view, sights.latest))) {
                if (fitting == i) {
                    return view;
                }
                fitting++;
            }
        }
        return i == NONE ? fitting : NONE;
    }

    public int ask(int spoke) {
        if (!isSpoke(spoke)) {
            return NONE;
        }
        sights.beginAsk();
        for (int view = 0; view <= MOST_VIEW; view++) {
            int pattern = pattern(spoke, view, SEEN_TURNS);
            if (sights.fit(pattern)) {
                sights.weighAsk(pattern);
            }
        }
        return sights.bestAsk();
    }

    /** By bits: bit n - 1 tells whether it is done behind n turns of the wheel as told but for one view. */
    private int pattern(int spoke, int view, int turns) {
        trial.begin(told);
        if (isSpoke(spoke)) {
            trial.view[spoke] = view;
        }
        int bits = 0;
        for (int n = 0; n < turns && n < SEEN_TURNS; n++) {
            trial.pass(TURNED, told, lawNow());
            if (trial.wasDone) {
                bits |= 1 << n;
            }
        }
        return bits;
    }

    public int power(int spoke) {
        if (!isSpoke(spoke) || !now.isOn(spoke)) {
            return NONE;
        }
        int all = Integer.bitCount(now.on);
        int others = now.on & ~(1 << spoke);
        int sets = 0;
        for (int set = 0; set <= others; set++) {
            int many = Integer.bitCount(set);
            if ((set & ~others) == 0 && 2 * many <= all && 2 * (many + 1) > all) {
                sets++;
            }
        }
        return sets;
    }

    public int often(int spoke, int n) {
        if (!isSpoke(spoke) || n < 1 || n > FAR) {
            return NONE;
        }
        trial.follow(now);
        int times = 0;
        for (int i = 0; i < n; i++) {
            trial.rollBlindly(told);
            if (trial.bottom == spoke && trial.isOn(spoke)) {
                times++;
            }
        }
        return times;
    }

    public int first(int spoke) {
        if (!isSpoke(spoke) || now.isBroken(spoke)) {
            return NONE;
        }
        trial.follow(now);
        for (int n = 1; n <= FAR; n++) {
            trial.rollBlindly(told);
            if (trial.isBroken(spoke)) {
                return n;
            }
        }
        return NONE;
    }

    // ---- games, odds, shares ----

    public int game(int one, int other, int x, int y, int what) {
        if (!areTwoOn(one, other) || x < 0 || x > 1 || y < 0 || y > 1 || what < 0 || what > 1) {
            return HIDDEN;
        }
        return what == 0 ? has(one, other, x, y) : has(other, one, y, x);
    }

    /** What the first of two has by his own choice and the second one's. */
    private int has(int mine, int other, int own, int others) {
        if (own == 1 || !isSpoke(mine)) {
            return REST_OFF;
        }
        int on = others == 1 ? now.on & ~(1 << other) : now.on;
        trial.weigh(told, on, now.bottom);
        int left = told.strength[mine] - trial.bear[mine];
        return Math.max(0, Math.min(MOST_REST, left));
    }

    public int rests(int one, int other, int i) {
        if (!areTwoOn(one, other) || i < NONE) {
            return NONE;
        }
        int found = 0;
        for (int x = 0; x <= 1; x++) {
            for (int y = 0; y <= 1; y++) {
                if (has(one, other, x, y) >= has(one, other, 1 - x, y)
                        && has(other, one, y, x) >= has(other, one, 1 - y, x)) {
                    if (found == i) {
                        return 10 * x + y;
                    }
                    found++;
                }
            }
        }
        return i == NONE ? found : NONE;
    }

    public int odds(int spot, int n, int chance) {
        if (!isSpoke(spot) || n < 0 || n > PLAN_TURNS || chance < 0 || chance > 100) {
            return NONE;
        }
        int parts = 0;
        for (int way = 0; way < 1 << n; way++) {
            parts += partAt(spot, n, chance, way);
        }
        return parts;
    }

    /** The part of one way (bits: the times it is held), if that ends with this place at the bottom. */
    private int partAt(int spot, int n, int chance, int way) {
        long part = ALL_PARTS;
        int place = now.bottom;
        for (int i = 0; i < n; i++) {
            long heldPart = part * chance / 100;
            if ((way >> i & 1) != 0) {
                part = heldPart;
            } else {
                part -= heldPart;
                place = told.behind(place);
            }
        }
        return place == spot ? (int) part : 0;
    }

    public int shares(int spoke, int c) {
        if (!isSpoke(spoke) || c < 0 || c > MOST_COINS) {
            return NONE;
        }
        int sum = 0;
        for (int i = 0; i < told.size; i++) {
            sum += now.isOn(i) ? told.strength[i] : 0;
        }
        return now.isOn(spoke) && sum > 0 ? c * told.strength[spoke] / sum : 0;
    }

    // ---- all of them ----

    public int all(int what) {
        if (!hasWheel()) {
            return NONE;
        }
        switch (what) {
            case 0:
                return outermost(told.strength, 1);
            case 1:
                return outermost(told.stubborn, 1);
            case 2:
                return outermost(now.view, 1);
            case 3:
                return outermost(now.view, -1);
            case 4:
                return now.on;
            case 5:
                return (1 << told.size) - 1 & ~now.on & ~now.broken;
            case 6:
                return now.broken;
            case 7:
                return now.inFavour(told.size);
            case 8:
                trial.follow(now);
                trial.pass(TURNED, told, lawNow());
                return flag(trial.wasDone);
            case 9:
                return now.apart(told.size);
            case 10:
                return tightest();
            case 11:
                return trial.overloaded(told, now.on, told.behind(now.bottom));
            default:
                return NONE;
        }
    }

    /** The number with the most (way 1) or the least (way -1) in a row, of several the lowest number. */
    private int outermost(int[] row, int way) {
        int best = 0;
        for (int i = 1; i < told.size && i < row.length; i++) {
            if (row[i] * way > row[best] * way) {
                best = i;
            }
        }
        return best;
    }

    private int tightest() {
        trial.weigh(told, now.on, now.bottom);
        int best = NONE;
        int least = 0;
        for (int i = 0; i < told.size; i++) {
            int left = told.strength[i] - trial.bear[i];
            if (now.isOn(i) && (best == NONE || left < least)) {
                best = i;
                least = left;
            }
        }
        return best;
    }

    public int image() {
        if (!hasWheel()) {
            return NONE;
        }
        kept.copy(now);
        imaged = true;
        return now.turn;
    }

    public int back() {
        if (!imaged) {
            return NONE;
        }
        now.copy(kept);
        acts.clear();
        return now.turn;
    }

    public int count(int what) {
        switch (what) {
            case 0:
                return told.size;
            case 1:
                return hasWheel() ? told.rule[LOAD] : 0;
            case 2:
                return lawCount;
            case 3:
                return journeyCount;
            case 4:
                return tape.length;
            case 5:
                return lawHeld;
            case 6:
                return now.turn;
            case 7:
                return now.coins;
            case 8:
                return now.wet;
            case 9:
                return flag(now.together);
            case 10:
                return now.done;
            case 11:
                return slippery;
            case 12:
                return sights.count;
            case 13:
                return now.logLength();
            case 14:
                return acts.size;
            case 15:
                return now.bottom;
            default:
                return HIDDEN;
        }
    }

    /** The bytes told, and how far a text has been read in them. */
    private static final class Tape {
        private final int[] bytes;
        private int length;
        private int at;
        private int fault;

        Tape() {
            bytes = new int[TAPE_BYTES];
        }

        void add(int number) {
            for (int shift = 24; shift >= 0; shift -= 8) {
                int value = number >>> shift & 255;
                if (value != 0 && length < bytes.length) {
                    bytes[length] = value;
                    length++;
                }
            }
        }

        void begin() {
            at = 0;
            fault = NONE;
        }

        /** The next sign that is no blank; it is not read past. */
        int sign() {
            while (at < length && bytes[at] == BLANK) {
                at++;
            }
            return at < length ? bytes[at] : END;
        }

        void next() {
            if (at < length) {
                at++;
            }
        }

        boolean take(int sign) {
            if (sign() != sign) {
                return false;
            }
            next();
            return true;
        }

        /** The fault is where the reading stands (the length, if nothing is left). */
        boolean fail() {
            fault = at;
            return false;
        }

        static boolean isDigit(int sign) {
            return sign >= '0' && sign <= '9';
        }

        /** A number of so many digits at most; NONE behind a fault. */
        int number(int digits, int least, int most) {
            if (!isDigit(sign())) {
                fail();
                return NONE;
            }
            int value = 0;
            for (int i = 0; i < digits && at < length && isDigit(bytes[at]); i++) {
                value = value * 10 + bytes[at] - '0';
                at++;
            }
            if (at < length && isDigit(bytes[at])) {
                fail();
                return NONE;
            }
            if (value < least || value > most) {
                at--;
                fail();
                return NONE;
            }
            return value;
        }
    }

    /** The wheel as it was told. */
    private static final class Wheel {
        private int size;
        private final int[] rule;
        private final int[] item;
        private final int[] strength;
        private final int[] view;
        private final int[] stubborn;

        Wheel() {
            rule = new int[RULE_USUAL.length];
            item = new int[SPOKE_USUAL.length];
            strength = new int[MOST_SPOKES];
            view = new int[MOST_SPOKES];
            stubborn = new int[MOST_SPOKES];
        }

        void clear() {
            size = 0;
            System.arraycopy(RULE_USUAL, 0, rule, 0, rule.length);
        }

        void usualSpoke() {
            System.arraycopy(SPOKE_USUAL, 0, item, 0, item.length);
        }

        void addSpoke() {
            if (size < MOST_SPOKES) {
                strength[size] = item[STRENGTH];
                view[size] = item[VIEW];
                stubborn[size] = item[STUBBORN];
                size++;
            }
        }

        void copy(Wheel from) {
            size = from.size;
            System.arraycopy(from.rule, 0, rule, 0, rule.length);
            System.arraycopy(from.strength, 0, strength, 0, MOST_SPOKES);
            System.arraycopy(from.view, 0, view, 0, MOST_SPOKES);
            System.arraycopy(from.stubborn, 0, stubborn, 0, MOST_SPOKES);
        }

        int behind(int place) {
            return place + 1 < size ? place + 1 : 0;
        }

        int ahead(int place) {
            return place > 0 ? place - 1 : size - 1;
        }

        int distance(int one, int other) {
            int way = Math.abs(one - other);
            return Math.min(way, size - way);
        }
    }

    /** How it is at one time, with rows to work in so that no call makes new ones. */
    private static final class State {
        private int on;
        private int broken;
        private int bottom;
        private int wet;
        private int coins;
        private int turn;
        private int done;
        private boolean together;
        private final int[] view;
        private final int[] logged;
        private int logCount;
        private final int[] bear;
        private final int[] opinion;
        private int lately;
        private boolean wasDone;
        private boolean changed;

        State() {
            view = new int[MOST_SPOKES];
            logged = new int[LOG_ROWS];
            bear = new int[MOST_SPOKES];
            opinion = new int[MOST_SPOKES];
        }

        void begin(Wheel wheel) {
            on = (1 << wheel.size) - 1;
            broken = 0;
            bottom = 0;
            wet = wheel.rule[WET];
            coins = wheel.rule[COINS];
            turn = 0;
            done = 0;
            together = wheel.rule[TOGETHER] == 1;
            System.arraycopy(wheel.view, 0, view, 0, MOST_SPOKES);
            logCount = 0;
        }

        /** All but the log, which no forecast reads. */
        void follow(State from) {
            on = from.on;
            broken = from.broken;
            bottom = from.bottom;
            wet = from.wet;
            coins = from.coins;
            turn = from.turn;
            done = from.done;
            together = from.together;
            System.arraycopy(from.view, 0, view, 0, MOST_SPOKES);
            logCount = 0;
        }

        void copy(State from) {
            follow(from);
            System.arraycopy(from.logged, 0, logged, 0, LOG_ROWS);
            logCount = from.logCount;
        }

        boolean isOn(int spoke) {
            return spoke >= 0 && spoke < MOST_SPOKES && (on >> spoke & 1) != 0;
        }

        boolean isBroken(int spoke) {
            return spoke >= 0 && spoke < MOST_SPOKES && (broken >> spoke & 1) != 0;
        }

        void heal(int spoke) {
            broken &= ~(1 << spoke);
            on |= 1 << spoke;
        }

        /** Puts into bear what each would bear, were these on and that place at the bottom. */
        void weigh(Wheel wheel, int those, int place) {
            for (int i = 0; i < MOST_SPOKES; i++) {
                bear[i] = 0;
            }
            int weight = wheel.rule[LOAD];
            int under = (weight + 1) / 2;
            int beside = (weight - under + 1) / 2;
            burden(wheel, those, place, under);
            burden(wheel, those, wheel.behind(place), beside);
            burden(wheel, those, wheel.ahead(place), weight - under - beside);
        }

        private void burden(Wheel wheel, int those, int place, int weight) {
            int who = place;
            for (int i = 0; i < wheel.size; i++) {
                if (who >= 0 && who < MOST_SPOKES && (those >> who & 1) != 0) {
                    bear[who] += weight;
                    return;
                }
                who = who + 1 < wheel.size ? who + 1 : 0;
            }
        }

        /** Which of those that are on (bits) would bear more than their strength. */
        int overloaded(Wheel wheel, int those, int place) {
            weigh(wheel, those, place);
            int bits = 0;
            for (int i = 0; i < wheel.size && i < MOST_SPOKES; i++) {
                if ((those >> i & 1) != 0 && bear[i] > wheel.strength[i]) {
                    bits |= 1 << i;
                }
            }
            return bits;
        }

        void fall(int spokes) {
            lately = spokes;
            on &= ~spokes;
            broken |= spokes;
        }

        /** A turn as far as weight goes: opinions, which move none, are left out. */
        void rollBlindly(Wheel wheel) {
            bottom = wheel.behind(bottom);
            fall(overloaded(wheel, on, bottom));
        }

        /** A turn, or what takes place where the wheel is held. */
        void pass(int kind, Wheel wheel, Law law) {
            if (kind == TURNED) {
                bottom = wheel.behind(bottom);
            }
            fall(overloaded(wheel, on, bottom));
            changed = false;
            if (isOn(bottom)) {
                confer(wheel, law);
            }
            wasDone = isDone(wheel.size);
            turn++;
            if (wasDone) {
                done++;
                coins = Math.min(MOST_COINS, coins + 1);
            }
        }

        private void confer(Wheel wheel, Law law) {
            int down = view[bottom];
            for (int i = 0; i < wheel.size && i < MOST_SPOKES; i++) {
                int own = view[i];
                int stubborn = wheel.stubborn[i];
                opinion[i] = own;
                if (i == bottom || !isOn(i)) {
                    continue;
                }
                if (law != null) {
                    int worth = law.worth(own, down, stubborn, wheel.distance(i, bottom), wet, turn % 100);
                    opinion[i] = Math.max(0, Math.min(MOST_VIEW, worth));
                } else if (Math.abs(own - down) > stubborn) {
                    opinion[i] = own < down ? own + 1 : own - 1;
                }
            }
            for (int i = 0; i < wheel.size && i < MOST_SPOKES; i++) {
                changed = changed || view[i] != opinion[i];
                view[i] = opinion[i];
            }
        }

        private boolean isDone(int size) {
            if (together) {
                return 2 * inFavour(size) > Integer.bitCount(on);
            }
            return isOn(bottom) && view[bottom] >= FAVOUR;
        }

        int inFavour(int size) {
            int many = 0;
            for (int i = 0; i < size && i < MOST_SPOKES; i++) {
                if (isOn(i) && view[i] >= FAVOUR) {
                    many++;
                }
            }
            return many;
        }

        int apart(int size) {
            int highest = 0;
            int lowest = MOST_VIEW;
            for (int i = 0; i < size && i < MOST_SPOKES; i++) {
                if (isOn(i)) {
                    highest = Math.max(highest, view[i]);
                    lowest = Math.min(lowest, view[i]);
                }
            }
            return Math.max(0, highest - lowest);
        }

        /** The view that most have who are on, of several the least; NONE if nobody is on. */
        int commonView(int size) {
            int best = NONE;
            int most = 0;
            for (int opinion = 0; opinion <= MOST_VIEW; opinion++) {
                int many = 0;
                for (int i = 0; i < size && i < MOST_SPOKES; i++) {
                    if (isOn(i) && view[i] == opinion) {
                        many++;
                    }
                }
                if (many > most) {
                    most = many;
                    best = opinion;
                }
            }
            return best;
        }

        void note() {
            logged[logCount % LOG_ROWS] = lately << 4 | bottom << 1 | flag(wasDone);
            logCount++;
        }

        int logLength() {
            return Math.min(LOG_ROWS, logCount);
        }

        int logRow(int i) {
            return i >= 0 && i < logCount ? logged[(logCount - 1 - i) % LOG_ROWS] : 0;
        }
    }

    /** How it was ahead of the latest acts; behind the fortieth the oldest goes. */
    private static final class Acts {
        private final State[] states;
        private int newest;
        private int size;

        Acts() {
            states = new State[MOST_ACTS];
            for (int i = 0; i < MOST_ACTS; i++) {
                states[i] = new State();
            }
        }

        void clear() {
            size = 0;
        }

        void push(State from) {
            newest = newest + 1 < MOST_ACTS ? newest + 1 : 0;
            states[newest].copy(from);
            size = Math.min(MOST_ACTS, size + 1);
        }

        void pop(State into) {
            if (size > 0) {
                into.copy(states[newest]);
                newest = newest > 0 ? newest - 1 : MOST_ACTS - 1;
                size--;
            }
        }
    }

    /** What was seen, bit n - 1 for n turns, and the sums of a question which n to ask about. */
    private static final class Sights {
        private int count;
        private int done;
        private int undone;
        private int latest;
        private int fitting;
        private final int[] doneBy;

        Sights() {
            doneBy = new int[SEEN_TURNS];
        }

        void clear() {
            count = 0;
            done = 0;
            undone = 0;
            latest = 0;
        }

        void add(int n, boolean was) {
            if (was) {
                done |= 1 << n - 1;
            } else {
                undone |= 1 << n - 1;
            }
            latest = Math.max(latest, n);
            count++;
        }

        boolean fit(int pattern) {
            return (pattern & undone) == 0 && (~pattern & done) == 0;
        }

        void beginAsk() {
            fitting = 0;
            for (int n = 0; n < SEEN_TURNS; n++) {
                doneBy[n] = 0;
            }
        }

        void weighAsk(int pattern) {
            fitting++;
            for (int n = 0; n < SEEN_TURNS; n++) {
                doneBy[n] += pattern >> n & 1;
            }
        }

        int bestAsk() {
            int best = NONE;
            int least = 0;
            for (int n = 0; n < SEEN_TURNS && fitting > 0; n++) {
                int apart = Math.abs(2 * doneBy[n] - fitting);
                if (best == NONE || apart < least) {
                    best = n + 1;
                    least = apart;
                }
            }
            return best;
        }
    }

    /** A search for rows of turns and holds: a state for each depth of it. */
    private static final class Plan {
        private final State[] states;
        private final Wheel wheel;
        private Law law;
        private int turns;
        private int bits;
        private int least;
        private int many;

        Plan(Wheel ofWheel) {
            wheel = ofWheel;
            states = new State[PLAN_TURNS + 1];
            for (int i = 0; i <= PLAN_TURNS; i++) {
                states[i] = new State();
            }
        }

        void begin(Law byLaw, State from) {
            law = byLaw;
            states[0].follow(from);
            least = NONE;
            many = 0;
        }

        /** Rows are found from the least one on. */
        void found(int row) {
            if (many == 0) {
                least = row;
            }
            many++;
        }
    }

    /** The steps of a journey. */
    private static final class Journey {
        private int size;
        private final int[] kind;
        private final int[] digit;

        Journey() {
            kind = new int[MOST_STEPS];
            digit = new int[MOST_STEPS];
        }

        void add(int what, int number) {
            if (size < MOST_STEPS) {
                kind[size] = what;
                digit[size] = number;
                size++;
            }
        }

        void copy(Journey from) {
            size = from.size;
            System.arraycopy(from.kind, 0, kind, 0, MOST_STEPS);
            System.arraycopy(from.digit, 0, digit, 0, MOST_STEPS);
        }
    }

    /** A law as a row of orders for a stack: the text is read once, not at each turn. */
    private static final class Law {
        private static final int LETTER = 1 << 16;
        private static final int SIGN = 2 << 16;
        private static final int JUMP = 3 << 16;
        private static final int ANSWER = 4 << 16;
        private static final int KIND = 7 << 16;
        private static final String LETTERS = "vdohwt";
        private static final int BOUND = 1000000;
        private static final int STACK = 64;

        private final int[] code;
        private final int[] stack;
        private final int[] letter;
        private int size;

        Law() {
            code = new int[TAPE_BYTES + 16];
            stack = new int[STACK];
            letter = new int[LETTERS.length()];
        }

        void copy(Law from) {
            size = from.size;
            System.arraycopy(from.code, 0, code, 0, code.length);
        }

        void emit(int order) {
            if (size < code.length) {
                code[size] = order;
                size++;
            }
        }

        void patch(int jump) {
            if (jump >= 0 && jump < size) {
                code[jump] = JUMP | size;
            }
        }

        int worth(int v, int d, int o, int h, int w, int t) {
            letter[0] = v;
            letter[1] = d;
            letter[2] = o;
            letter[3] = h;
            letter[4] = w;
            letter[5] = t;
            int top = 0;
            for (int at = 0; at < size; at++) {
                int order = code[at];
                int detail = order & ~KIND;
                int kind = order & KIND;
                int last = top > 0 ? stack[top - 1] : 0;
                if (kind == ANSWER) {
                    return last;
                }
                if (kind == JUMP) {
                    top = Math.max(0, top - 1);
                    at = last == 0 ? Math.max(at, detail - 1) : at;
                } else if (kind == SIGN && detail == '!') {
                    top = put(Math.max(0, top - 1), 1 - last);
                } else if (kind == SIGN) {
                    int left = top > 1 ? stack[top - 2] : 0;
                    top = put(Math.max(0, top - 2), reckoned(detail, left, last));
                } else if (kind == LETTER) {
                    top = put(top, detail < letter.length ? letter[detail] : 0);
                } else {
                    top = put(top, detail);
                }
            }
            return 0;
        }

        /** Puts a value on the stack; how many it has then. */
        private int put(int top, int value) {
            if (top < 0 || top >= STACK) {
                return top;
            }
            stack[top] = value;
            return top + 1;
        }

        private static int reckoned(int sign, long left, long right) {
            long value;
            switch (sign) {
                case '+':
                    value = left + right;
                    break;
                case '-':
                    value = left - right;
                    break;
                case '*':
                    value = left * right;
                    break;
                case '/':
                    value = right == 0 ? 0 : left / right;
                    break;
                case '=':
                    value = left == right ? 1 : 0;
                    break;
                case '<':
                    value = left < right ? 1 : 0;
                    break;
                case '>':
                    value = left > right ? 1 : 0;
                    break;
                case '&':
                    value = left & right;
                    break;
                default:
                    value = left | right;
                    break;
            }
            return (int) Math.max(-BOUND, Math.min(BOUND, value));
        }
    }

    /** Reads a law; depth is how many of ( [ ! stand open round the place. */
    private static final class LawReader {
        private final Tape tape;
        private final Law law;

        LawReader(Tape from) {
            tape = from;
            law = new Law();
        }

        boolean read() {
            law.size = 0;
            tape.begin();
            boolean more = true;
            for (int i = 0; more && i < TAPE_BYTES; i++) {
                if (!clause()) {
                    return false;
                }
                more = tape.take(';');
            }
            return tape.sign() == END || tape.fail();
        }

        private boolean clause() {
            if (!tape.take('y') || !tape.take(':')) {
                return tape.fail();
            }
            int sign = tape.sign();
            boolean begun = sign != '!' && sign != '(';
            if (begun) {
                // only what stands behind a sum tells whether it begins a condition
                if (!sum(0)) {
                    return false;
                }
                if (!isRelation(tape.sign())) {
                    law.emit(Law.ANSWER);
                    return true;
                }
            }
            if (!condition(0, begun)) {
                return false;
            }
            if (!tape.take('?')) {
                return tape.fail();
            }
            int jump = law.size;
            law.emit(Law.JUMP);
            if (!sum(0)) {
                return false;
            }
            law.emit(Law.ANSWER);
            law.patch(jump);
            return true;
        }

        private static boolean isRelation(int sign) {
            return sign == '=' || sign == '<' || sign == '>';
        }

        private boolean condition(int depth, boolean begun) {
            if (depth > DEEPEST) {
                return tape.fail();
            }
            if (!truth(depth, begun)) {
                return false;
            }
            for (int i = 0; i < TAPE_BYTES && tape.take('|'); i++) {
                if (!truth(depth, false)) {
                    return false;
                }
                law.emit(Law.SIGN | '|');
            }
            return true;
        }

        private boolean truth(int depth, boolean begun) {
            if (!unit(depth, begun)) {
                return false;
            }
            for (int i = 0; i < TAPE_BYTES && tape.take('&'); i++) {
                if (!unit(depth, false)) {
                    return false;
                }
                law.emit(Law.SIGN | '&');
            }
            return true;
        }

        private boolean unit(int depth, boolean begun) {
            int inner = depth;
            for (int i = 0; i < DEEPEST && inner < DEEPEST && !begun && tape.take('!'); i++) {
                inner++;
            }
            int sign = tape.sign();
            if (!begun && (sign == '!' || sign == '(' && inner >= DEEPEST)) {
                return tape.fail();
            }
            if (!begun && sign == '(') {
                tape.next();
                if (!condition(inner + 1, false)) {
                    return false;
                }
                if (!tape.take(')')) {
                    return tape.fail();
                }
            } else if (!begun && !sum(inner) || !relation(inner)) {
                return false;
            }
            for (int i = depth; i < inner; i++) {
                law.emit(Law.SIGN | '!');
            }
            return true;
        }

        /** What follows the first sum of a comparison. */
        private boolean relation(int depth) {
            int sign = tape.sign();
            if (!isRelation(sign)) {
                return tape.fail();
            }
            tape.next();
            if (!sum(depth)) {
                return false;
            }
            law.emit(Law.SIGN | sign);
            return true;
        }

        private boolean sum(int depth) {
            if (depth > DEEPEST || !term(depth)) {
                return false;
            }
            int sign = tape.sign();
            for (int i = 0; i < TAPE_BYTES && (sign == '+' || sign == '-'); i++) {
                tape.next();
                if (!term(depth)) {
                    return false;
                }
                law.emit(Law.SIGN | sign);
                sign = tape.sign();
            }
            return true;
        }

        private boolean term(int depth) {
            if (!atom(depth)) {
                return false;
            }
            int sign = tape.sign();
            for (int i = 0; i < TAPE_BYTES && (sign == '*' || sign == '/'); i++) {
                tape.next();
                if (!atom(depth)) {
                    return false;
                }
                law.emit(Law.SIGN | sign);
                sign = tape.sign();
            }
            return true;
        }

        private boolean atom(int depth) {
            int sign = tape.sign();
            if (Tape.isDigit(sign)) {
                int value = tape.number(4, 0, 9999);
                if (value < 0) {
                    return false;
                }
                law.emit(value);
                return true;
            }
            int which = sign == END ? NONE : Law.LETTERS.indexOf((char) sign);
            if (which >= 0) {
                tape.next();
                law.emit(Law.LETTER | which);
                return true;
            }
            if (sign != '[' || depth >= DEEPEST) {
                return tape.fail();
            }
            tape.next();
            if (!sum(depth + 1)) {
                return false;
            }
            return tape.take(']') || tape.fail();
        }
    }
}
