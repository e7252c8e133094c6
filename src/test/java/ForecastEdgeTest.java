/** Terms 3 and the promises of what is asked (20 to 36, 39): a test for each sentence that names a boundary. */
public final class ForecastEdgeTest {
    private static final int NONE = SpokeRing.NONE;
    private static final int HIDDEN = SpokeRing.HIDDEN;
    private static final int[] FAR = {Integer.MAX_VALUE, Integer.MIN_VALUE};

    public static void main(String[] args) {
        apart();
        fromAsItIs();
        behind999();
        notInRun();
        coinsInRun();
        runBehindHowMany();
        runHidden();
        performUpToThere();
        performNone();
        bearsNone();
        spareOneLeft();
        spareWherever();
        spareLeast();
        spareNone();
        planRows();
        planLeastAndMany();
        planNone();
        settledAsManyTurns();
        settledWithin99();
        settledView();
        settledNone();
        seenTen();
        seenLatest();
        viewsZeroToNine();
        viewsAsTold();
        viewsNone();
        askOneToTwenty();
        askLeast();
        askNone();
        powerSets();
        powerNone();
        oftenDown();
        oftenNone();
        firstBroken();
        firstNone();
        gameWithin();
        gameHidden();
        asTheBottomIs();
        restsRising();
        restsByGame();
        restsNone();
        oddsParts();
        oddsCut();
        oddsNone();
        sharesCut();
        sharesNone();
        allLowest();
        allOnOrNot();
        allFor();
        allNext();
        allApart();
        allTight();
        allBreaking();
        allNone();
        countEach();
        countHidden();
        Kit.end("ForecastEdgeTest");
    }

    private static void due(String what, long got, long want) {
        Kit.due(what, got, want);
    }

    private static void due(String what, boolean got, boolean want) {
        Kit.due(what, got, want);
    }

    private static String wheel(String rules, int n, String spoke) {
        StringBuilder text = new StringBuilder(rules);
        for (int i = 0; i < n; i++) {
            text.append(text.length() > 0 ? ";" : "").append(spoke);
        }
        return text.toString();
    }

    private static SpokeRing off(SpokeRing x, int... spokes) {
        for (int spoke : spokes) {
            due("off " + spoke, x.away(spoke), 0);
        }
        return x;
    }

    // ---- Terms 3: apart, from as it is ----

    /** Each forecast once; what they answered. */
    private static String forecasts(SpokeRing x) {
        StringBuilder told = new StringBuilder();
        for (int what = 0; what <= 1; what++) {
            told.append(x.run(0, what)).append(' ').append(x.settled(what)).append(' ');
            told.append(x.plan(3, 5, what)).append(' ').append(x.plan(8, 0, what)).append(' ');
            told.append(x.game(0, 2, what, 1, what)).append(' ');
        }
        for (int spoke = 0; spoke < 4; spoke++) {
            told.append(x.bears(spoke, 1)).append(' ').append(x.views(spoke, 0)).append(' ');
            told.append(x.ask(spoke)).append(' ').append(x.power(spoke)).append(' ');
            told.append(x.often(spoke, 99)).append(' ').append(x.first(spoke)).append(' ');
            told.append(x.odds(spoke, 3, 30)).append(' ').append(x.shares(spoke, 99)).append(' ');
        }
        told.append(x.spare()).append(' ').append(x.rests(0, 2, NONE)).append(' ');
        for (int what = 0; what <= 11; what++) {
            told.append(x.all(what)).append(' ');
        }
        return told.toString();
    }

    private static void apart() {
        Kit.says("Terms 3", "(Apart, ..)");
        SpokeRing x = Kit.ring("sl16c9w4;kv9o0;ks7v4o0;kv0o1;kv6o0", "y:t+v-h");
        Kit.tell(x, 2, "t;h;g0;m1;t;t");
        x.seen(2, true);
        String before = Kit.state(x);
        String first = forecasts(x);
        due("nothing has changed", before.equals(Kit.state(x)), true);
        due("they answer so again", first.equals(forecasts(x)), true);
        due("no act", x.undo(), NONE);
        x.turn();
        x.away(0);
        before = Kit.state(x);
        first = forecasts(x);
        due("nothing has changed then", before.equals(Kit.state(x)), true);
        due("they answer so again then", first.equals(forecasts(x)), true);
        due("two acts", x.undo(), 1);
    }

    private static void fromAsItIs() {
        Kit.says("Terms 3", "(.. from as it is ..)");
        SpokeRing x = Kit.ring("sl16c99;kv9o9;kv0o9;kv9o9;ks7v9o9;k");
        Kit.tell(x, 2, "t");
        due("run", x.run(0, 1), 0);
        due("next", x.all(8), 0);
        due("plan", x.plan(1, 1, 0), 1);
        due("first", x.first(3), 3);
        due("often", x.often(2, 2), 1);
        due("breaking", x.all(11), 0);
        due("odds", x.odds(1, 1, 0), 1000000000);
        x.turn();
        due("run from 1", x.run(0, 1), 1);
        due("next from 1", x.all(8), 1);
        due("plan from 1", x.plan(1, 1, 0), 0);
        due("first from 1", x.first(3), 2);
        due("often from 1", x.often(2, 1), 1);
        due("odds from 1", x.odds(2, 1, 0), 1000000000);
        x.turn();
        due("breaking from 2", x.all(11), 8);
        off(x, 3);
        due("breaking, it is off", x.all(11), 0);
        due("first, it is off", x.first(3), NONE);
        x.vote(true);
        due("next by all", x.all(8), 1);
        x.vote(false);
        due("next by nobody", x.all(8), 0);
        Kit.tell(x, 1, "y:w");
        x.law(0);
        x.wet(9);
        due("settled by the law as it is", x.settled(1), 9);
        x.wet(2);
        due("settled by the wet as it is", x.settled(1), 2);
    }

    private static void behind999() {
        Kit.says("Terms 3", "TURNS go on behind 999");
        SpokeRing x = Kit.late("sl16;kv0o0;kv9o9;kv9o9;ks8v9o9", 999);
        due("at 3", x.count(15), 3);
        due("0 has come to 9", Kit.spoke(x, 0, 1), 9);
        due("next", x.all(8), 1);
        due("plan, eight turns", x.plan(8, 255, 1), 256);
        due("often", x.often(0, 99), 25);
        due("settled", x.settled(0), 0);
        Kit.tell(x, 1, "y:t=99?8;y:t=0?7;y:t=1?6;y:1");
        x.law(0);
        due("not in the turns themselves", x.turn(), NONE);
        // t is 99 in the first, 0 in the second, 1 in the third; then 1 on and on
        due("settled by what comes behind", x.settled(1), 1);
        due("settled behind four or five", x.settled(0), 5);
        SpokeRing t = Kit.late("sl0;kv0o9;kv0o9;kv0o9", 999);
        Kit.tell(t, 1, "y:t=0?9;y:v");
        t.law(0);
        // in the second t is 0: all but who is down have 9 then; done in the third, if that is a turn
        due("done in the third alone", t.plan(3, 4, 0), 0);
        due("so many rows", t.plan(3, 4, 1), 4);
        due("not in the second", t.plan(2, 2, 1), 0);
        SpokeRing breaks = Kit.late("sl16;ks8;ks8;ks8;ks8", 999);
        due("none breaks", breaks.first(0), NONE);
        off(breaks, 1);
        due("breaking", breaks.all(11), 0);
        due("first behind 999", breaks.first(2), 2);
    }

    private static void notInRun() {
        Kit.says("Terms 3", "TURNS go on behind 999, but not in RUN");
        SpokeRing x = Kit.late("sl0;k;k;k", 997);
        Kit.tell(x, 2, "t;h;t;t");
        due("998, 999", x.run(0, 0), 2);
        due("done twice", x.run(0, 1), 2);
        x.turn();
        due("999", x.run(0, 0), 1);
        x.turn();
        due("none", x.run(0, 0), 0);
        due("done in none", x.run(0, 1), 0);
        Kit.tell(x, 2, "g0;g0;t");
        due("what is no turn can be", x.run(1, 0), 2);
        Kit.tell(x, 2, "h");
        due("held can't be", x.run(2, 0), 0);
        SpokeRing last = Kit.late("sl0;k;k;k", 998);
        Kit.tell(last, 2, "h");
        due("the last one can", last.run(0, 0), NONE);
    }

    private static int ran(int coins, String journey) {
        SpokeRing x = Kit.ring("sl0c" + coins + ";kv0o9;kv9o9;kv0o9");
        due("journey " + journey, Kit.tell(x, 2, journey), 0);
        return x.run(0, 0);
    }

    private static void coinsInRun() {
        Kit.says("Terms 3", "COINS do not matter, but in RUN");
        due("held with none", ran(0, "h"), 0);
        due("held with one", ran(1, "h"), NONE);
        due("held twice with one", ran(1, "h;h"), 1);
        due("off with one", ran(1, "g0"), 0);
        due("off with two", ran(2, "g0"), NONE);
        due("off and on with three", ran(3, "g0;g0"), 1);
        due("off and on with four", ran(4, "g0;g0"), NONE);
        due("one got in it", ran(0, "t;h"), NONE);
        due("one got, one paid, one got", ran(0, "t;h;h;h"), NONE);
        due("one got, none for two", ran(0, "t;g0"), 1);
        due("two got", ran(1, "t;g0"), NONE);
        SpokeRing poor = Kit.ring("sl0c0;kv0o9;kv9o9;kv0o9");
        due("plan, held, then a turn", poor.plan(2, 2, 0), 10);
        due("plan, a turn, then held", poor.plan(2, 3, 0), 1);
        due("plan, held, then two turns", poor.plan(3, 2, 0), 100);
        SpokeRing still = Kit.ring("sl0c0;kv9o9;kv0o9;kv0o9");
        due("held eight times without coins", still.plan(8, 255, 0), 11111111);
    }

    private static void runBehindHowMany() {
        Kit.says("Promise 20", "RUN: behind how many (0; NONE: all can be), DONE (1); Terms 3: the first that can't be");
        SpokeRing x = Kit.ring("sl0c99;kv9o9;kv9o9;kv9o9");
        Kit.tell(x, 2, "m0");
        due("none", x.run(0, 0), 0);
        due("done in none", x.run(0, 1), 0);
        Kit.tell(x, 2, "t;h;t;h;t;h;t;h;t;h;t;h;t;h;t;g3");
        due("fifteen", x.run(1, 0), 15);
        due("done in fifteen", x.run(1, 1), 15);
        Kit.tell(x, 2, "t;h;t;h;t;h;t;h;t;h;t;h;t;h;t;g2");
        due("all can be", x.run(2, 0), NONE);
        Kit.tell(x, 2, "t;g9;t;t;m1");
        due("the first of two", x.run(3, 0), 1);
        due("done up to there", x.run(3, 1), 1);
        SpokeRing y = Kit.ring("sl16;kv0o9;ks7v9o9;kv0o9;k");
        Kit.tell(y, 2, "m1;t");
        Kit.tell(y, 2, "t;g1");
        Kit.tell(y, 2, "t;m1;g1;g1;m1");
        due("mended ahead of breaking", y.run(0, 0), 0);
        due("a broken one does not get off", y.run(1, 0), 1);
        due("mended, then off and on, not broken then", y.run(2, 0), 4);
        y.turn();
        due("done from here on, not in all", y.run(0, 1), 0);
    }

    private static void runHidden() {
        Kit.says("Promise 20", "HIDDEN: no such ones, no WHEEL");
        SpokeRing none = new SpokeRing();
        Kit.tell(none, 2, "t");
        Kit.refused("no wheel", none, () -> none.run(0, 0), HIDDEN);
        SpokeRing x = Kit.ring("k;k;k");
        Kit.refused("no journey", x, () -> x.run(0, 0), HIDDEN);
        Kit.tell(x, 2, "t");
        due("it", x.run(0, 0), NONE);
        for (int odd : new int[] {-1, 1, 4, FAR[0], FAR[1]}) {
            Kit.refused("journey " + odd, x, () -> x.run(odd, 0), HIDDEN);
        }
        for (int odd : new int[] {-1, 2, FAR[0], FAR[1]}) {
            Kit.refused("what " + odd, x, () -> x.run(0, odd), HIDDEN);
        }
    }

    private static void performUpToThere() {
        Kit.says("Promise 21", "DO: how many STEPS were done; Terms 3: its STEPS as ACTS, up to there");
        SpokeRing x = Kit.ring("sl0c3;kv0o9;kv0o9;kv0o9");
        Kit.tell(x, 2, "t;g1;h;t;g1;t");
        due("the third has a coin, the fifth none", x.perform(0), 4);
        due("four acts", x.count(14), 4);
        due("three turns", x.count(6), 3);
        due("no coin", x.count(7), 0);
        due("off", x.all(5), 2);
        due("undone", x.undo(), 3);
        due("undone to off", x.undo(), 2);
        due("a coin", x.count(7), 1);
        due("undone, on", x.undo(), 1);
        due("all on", x.all(4), 7);
        Kit.tell(x, 2, "m0;t");
        due("none", x.perform(1), 0);
        due("no act", x.count(14), 1);
        SpokeRing all = Kit.ring("sl0c99;kv9o9;kv9o9;kv9o9");
        Kit.tell(all, 2, "t;t;t;t;t;t;t;t;t;t;t;t;t;t;t;t");
        due("sixteen", all.perform(0), 16);
        all.perform(0);
        all.perform(0);
        due("forty of 48 can be undone", all.count(14), 40);
        due("48", all.count(6), 48);
        SpokeRing late = Kit.late("sl0;k;k;k", 998);
        Kit.tell(late, 2, "t;t");
        due("up to 999", late.perform(0), 1);
        due("none at 999", late.perform(0), 0);
    }

    private static void performNone() {
        Kit.says("Promise 21", "NONE: no such JOURNEY, no WHEEL");
        SpokeRing none = new SpokeRing();
        Kit.tell(none, 2, "t");
        Kit.refused("no wheel", none, () -> none.perform(0), NONE);
        SpokeRing x = Kit.ring("k;k;k");
        Kit.refused("no journey", x, () -> x.perform(0), NONE);
        Kit.tell(x, 2, "t");
        for (int odd : new int[] {-1, 1, 4, FAR[0], FAR[1]}) {
            Kit.refused("journey " + odd, x, () -> x.perform(odd), NONE);
        }
    }

    private static void bearsNone() {
        Kit.says("Promise 22", "BEARS, were that place at the bottom (not ON: 0). NONE: no such ones");
        SpokeRing x = Kit.ring("sl16;k;ks7;k;k");
        for (int odd : new int[] {-1, 4, 8, 32, FAR[0], FAR[1]}) {
            Kit.refused("spoke " + odd, x, () -> x.bears(odd, 0), NONE);
            Kit.refused("bottom " + odd, x, () -> x.bears(0, odd), NONE);
            Kit.refused("both " + odd, x, () -> x.bears(odd, odd), NONE);
        }
        due("the last of both", x.bears(3, 3), 8);
        off(x, 0);
        due("off", x.bears(0, 0), 0);
        x.turn();
        due("broken", x.bears(1, 1), 0);
        due("a place that is off may be told", x.bears(2, 0), 12);
        due("a place that is broken, too", x.bears(2, 1), 16);
    }

    // ---- SPARE ----

    private static void spareOneLeft() {
        Kit.says("Terms 3", "SPARE: the most SPOKES of those that are ON .. which may be OFF, too, at least one left ON");
        for (int n = 3; n <= 8; n++) {
            due("all but the last of " + n, Kit.ring(wheel("sl24", n, "ks24")).spare(), (1 << n - 1) - 1);
        }
        due("without a load, too", Kit.ring("sl0;ks1;ks1;ks1").spare(), 3);
        due("one is on", off(Kit.ring("sl24;k;k;k"), 0, 2).spare(), 0);
        due("only those that are on", off(Kit.ring("sl24;k;k;k"), 0).spare(), 2);
        due("the last one is off", off(Kit.ring("sl24;k;k;k"), 2).spare(), 1);
        due("the one that bears it stays", Kit.ring("sl24;ks24;ks23;ks23").spare(), 6);
        due("the first of eight stays", Kit.ring("sl24;ks24" + ";ks23".repeat(7)).spare(), 254);
    }

    private static void spareWherever() {
        Kit.says("Terms 3", "so that, wherever the bottom is, no SPOKE that is ON then BEARS more than its STRENGTH");
        // just as much is not more
        due("12, 6, 6: all may stay", Kit.ring("sl24;ks12;ks12;ks12").spare(), 0);
        due("one of them bears too much at the bottom", Kit.ring("sl24;ks12;ks11;ks12").spare(), NONE);
        due("the last one does", Kit.ring("sl24;ks12;ks12;ks11").spare(), NONE);
        due("the first one does", Kit.ring("sl24;ks11;ks12;ks12").spare(), NONE);
        due("one off: 18 on the next", Kit.ring("sl24;ks18;ks18;ks18").spare(), 1);
        due("17 are too few for that", Kit.ring("sl24;ks17;ks17;ks17").spare(), 0);
        due("18 on him behind it alone", Kit.ring("sl24;ks12;ks18;ks18").spare(), 1);
        // a weak one may have to be off so that the others can do it
        due("one must be off", Kit.ring("sl24;ks18;ks1;ks18").spare(), 2);
        // as the bottom is does not matter
        SpokeRing x = Kit.ring("sl24;ks18;ks18;ks18");
        x.turn();
        due("from another place", x.spare(), 1);
        // those that are off already make the others bear more
        due("0 is off", off(Kit.ring("sl24;ks18;ks18;ks18"), 0).spare(), 0);
        due("0 is off, too weak", off(Kit.ring("sl24;ks18;ks17;ks17"), 0).spare(), NONE);
    }

    private static void spareLeast() {
        Kit.says("Terms 3", "(bits; of several the least)");
        due("each of three", Kit.ring("sl24;ks18;ks18;ks18").spare(), 1);
        due("1 or 2: 1", Kit.ring("sl24;ks18;ks12;ks18").spare(), 2);
        due("the most ahead of the least", Kit.ring("sl24;ks23;ks24;ks23").spare(), 5);
        // with 0 and 1 off 2 would bear all, were 1 at the bottom
        due("two of four", Kit.ring("sl24;ks20;ks20;ks20;ks20").spare(), 5);
        due("eight", Kit.ring(wheel("sl24", 8, "ks99")).spare(), 127);
    }

    private static void spareNone() {
        Kit.says("Promise 23", "NONE: by none (not even with these that are ON), no WHEEL, none is ON");
        SpokeRing none = new SpokeRing();
        Kit.refused("no wheel", none, () -> none.spare(), NONE);
        SpokeRing weak = Kit.ring("sl24;ks11;ks11;ks11");
        Kit.refused("by none", weak, () -> weak.spare(), NONE);
        SpokeRing x = off(Kit.ring("sl0;k;k;k"), 0, 1, 2);
        Kit.refused("none is on", x, () -> x.spare(), NONE);
        SpokeRing broken = Kit.ring("sl99;ks1;ks1;ks1");
        broken.turn();
        Kit.refused("all are broken", broken, () -> broken.spare(), NONE);
        SpokeRing all = Kit.ring("sl24;ks12;ks12;ks12");
        due("with these that are on alone: none", all.spare(), 0);
    }

    // ---- PLAN ----

    /** How many rows of turns and holds are done in just these, told by acts and undoing them. */
    private static int rows(SpokeRing x, int n, int bits) {
        int many = 0;
        for (int row = 0; row < 1 << n; row++) {
            int done = 0;
            for (int i = 0; i < n; i++) {
                done |= ((row >> n - 1 - i & 1) == 1 ? x.hold() : x.turn()) << i;
            }
            many += done == bits ? 1 : 0;
            for (int i = 0; i < n; i++) {
                x.undo();
            }
        }
        return many;
    }

    private static void planRows() {
        Kit.says("Terms 3", "PLAN for n (1 .. 8) and bits: rows of n digits (the first the highest; 0 a TURN, 1 HELD) by which "
                + "it is DONE just in those of these n that the bits tell (the first: bit 0)");
        SpokeRing x = Kit.ring("sl16c99;kv9o0;ks9v4o1;kv3o0;ks6v6o9;kv0o0");
        for (int n = 1; n <= 3; n++) {
            int sum = 0;
            for (int bits = 0; bits < 1 << n; bits++) {
                due("n " + n + ", bits " + bits, x.plan(n, bits, 1), rows(x, n, bits));
                sum += x.plan(n, bits, 1);
            }
            due("all rows of " + n, sum, 1 << n);
        }
        // done wherever 0 is down alone
        SpokeRing y = Kit.ring("sl0;kv9o9;kv0o9;kv0o9");
        due("the first: bit 0, the highest digit", y.plan(2, 1, 0), 10);
        due("both", y.plan(2, 3, 0), 11);
        due("none", y.plan(2, 0, 0), 0);
        due("the second alone", y.plan(2, 2, 0), NONE);
        due("the third alone", y.plan(3, 4, 0), 0);
        due("one digit", y.plan(1, 1, 0), 1);
        due("one digit, a turn", y.plan(1, 0, 0), 0);
        due("eight: the first seven", y.plan(8, 127, 0), 11111110);
        due("eight: the first alone", y.plan(8, 1, 0), 10011111);
    }

    private static void planLeastAndMany() {
        Kit.says("Terms 3", "the least row; how many rows");
        SpokeRing never = Kit.ring("sl0;kv0;kv0;kv0");
        for (int n = 1; n <= 8; n++) {
            due("never done, least of " + n, never.plan(n, 0, 0), 0);
            due("never done, many of " + n, never.plan(n, 0, 1), 1 << n);
        }
        SpokeRing ever = Kit.ring("sl0;kv9;kv9;kv9");
        for (int n = 1; n <= 8; n++) {
            due("ever done, least of " + n, ever.plan(n, (1 << n) - 1, 0), 0);
            due("ever done, many of " + n, ever.plan(n, (1 << n) - 1, 1), 1 << n);
            due("ever done, but the last of " + n, ever.plan(n, (1 << n - 1) - 1, 1), 0);
        }
        // 0 and 1 done, 2 not: what is least ends in a turn where it can
        SpokeRing x = Kit.ring("sl0;kv9o9;kv9o9;kv0o9");
        due("least", x.plan(2, 3, 0), 1);
        due("many: held twice, held and a turn, a turn and held", x.plan(2, 3, 1), 3);
        due("one way", x.plan(2, 1, 0), 0);
    }

    private static void planNone() {
        Kit.says("Promise 24", "NONE: by none (of 1: 0), no WHEEL, out of bounds, no such what");
        SpokeRing none = new SpokeRing();
        Kit.refused("no wheel", none, () -> none.plan(1, 0, 0), NONE);
        Kit.refused("no wheel, how many", none, () -> none.plan(1, 0, 1), NONE);
        SpokeRing x = Kit.ring("sl0;kv0;kv0;kv0");
        Kit.refused("by none", x, () -> x.plan(1, 1, 0), NONE);
        Kit.refused("by none: 0", x, () -> x.plan(1, 1, 1), 0);
        Kit.refused("by none of 8", x, () -> x.plan(8, 255, 0), NONE);
        Kit.refused("by none of 8: 0", x, () -> x.plan(8, 255, 1), 0);
        for (int what = 0; what <= 1; what++) {
            int asked = what;
            for (int n : new int[] {0, -1, 9, 32, FAR[0], FAR[1]}) {
                Kit.refused("n " + n, x, () -> x.plan(n, 0, asked), NONE);
            }
            for (int n = 1; n <= 8; n++) {
                int turns = n;
                Kit.refused("bits above " + n, x, () -> x.plan(turns, 1 << turns, asked), NONE);
                Kit.refused("bits below 0", x, () -> x.plan(turns, -1, asked), NONE);
            }
            Kit.refused("bits far above", x, () -> x.plan(8, FAR[0], asked), NONE);
            Kit.refused("bits far below", x, () -> x.plan(8, FAR[1], asked), NONE);
        }
        for (int what : new int[] {-1, 2, FAR[0], FAR[1]}) {
            Kit.refused("what " + what, x, () -> x.plan(1, 0, what), NONE);
        }
    }

    // ---- SETTLED ----

    private static void settledAsManyTurns() {
        Kit.says("Terms 3", "SETTLED: the fewest TURNS .. behind which no VIEW changes in as many TURNS, one behind the other, "
                + "as there are SPOKES");
        for (int n = 3; n <= 8; n++) {
            // only as the last one is down the others change: four times, from 5 to 9
            SpokeRing x = Kit.ring(wheel("sl0", n - 1, "kv5o0") + ";kv9o9");
            due("of " + n, x.settled(0), (n - 1) + 3 * n);
            for (int i = 0; i < n - 1; i++) {
                x.turn();
            }
            due("behind " + (n - 1) + " of " + n, x.settled(0), 3 * n);
            for (int i = 0; i < 3 * n; i++) {
                due("not yet", x.settled(0), 3 * n - i);
                x.turn();
            }
            due("settled of " + n, x.settled(0), 0);
        }
        SpokeRing fewOn = off(Kit.ring(wheel("sl0", 7, "kv5o0") + ";kv9o9"), 0, 1, 2, 4);
        due("as there are spokes, on or not", fewOn.settled(0), 31);
        SpokeRing broken = Kit.ring("sl16;kv5o0;ks7v5o0;kv5o0;kv5o0;kv9o9");
        broken.turn();
        due("broken or not", broken.settled(0), 3 + 3 * 5);
        due("all alike", Kit.ring("sl0;k;k;k").settled(0), 0);
        due("none is apart by more", Kit.ring("sl0;kv4o1;kv5o1;kv4o1").settled(0), 0);
        due("by one in the first turn", Kit.ring("sl0;kv4o0;kv5o1;kv5o1").settled(0), 1);
    }

    /** Views come and go with t but for some turns in which they are 5; 50 turns are gone. */
    private static SpokeRing restless(int spokes, int from, int behind) {
        SpokeRing x = Kit.ring(wheel("sl0", spokes, "kv9"), "y:t>" + from + "&t<" + behind + "?5;y:t-t/2*2");
        x.law(NONE);
        for (int i = 0; i < 50; i++) {
            x.turn();
        }
        x.law(0);
        return x;
    }

    private static void settledWithin99() {
        Kit.says("Terms 3", "(0 .. 99); Promise 25: NONE: not within 99");
        for (int spokes = 3; spokes <= 8; spokes++) {
            // t is 47 in the 98th turn: in that one all change but who is down, he in the next one
            SpokeRing at99 = restless(spokes, 46, 49 + spokes);
            due("99 of " + spokes, at99.settled(0), 99);
            due("99, the view, of " + spokes, at99.settled(1), 5);
            SpokeRing at98 = restless(spokes, 45, 48 + spokes);
            due("98 of " + spokes, at98.settled(0), 98);
            due("98, the view, of " + spokes, at98.settled(1), 5);
            SpokeRing at100 = restless(spokes, 47, 50 + spokes);
            Kit.refused("100 of " + spokes, at100, () -> at100.settled(0), NONE);
            Kit.refused("100, the view, of " + spokes, at100, () -> at100.settled(1), NONE);
            SpokeRing tooFew = restless(spokes, 46, 48 + spokes);
            Kit.refused("one turn too few of " + spokes, tooFew, () -> tooFew.settled(0), NONE);
        }
        SpokeRing never = Kit.ring("sl0;k;k;k", "y:t-t/2*2");
        Kit.refused("never", never, () -> never.settled(0), NONE);
        Kit.refused("never, the view", never, () -> never.settled(1), NONE);
    }

    private static void settledView() {
        Kit.says("Terms 3", "the VIEW that most have who are ON behind the fewest (of several the least; nobody is ON: NONE)");
        due("two to one", Kit.ring("sl0;kv8o9;kv3o9;kv8o9").settled(1), 8);
        due("of several the least", Kit.ring("sl0;kv8o9;kv3o9;kv4o9").settled(1), 3);
        due("two of two", Kit.ring("sl0;kv8o9;kv3o9;kv3o9;kv8o9").settled(1), 3);
        due("by the last two of eight", Kit.ring("sl0;kv3o9;kv3o9;kv7o9;kv1o9;kv2o9;kv0o9;kv7o9;kv7o9").settled(1), 7);
        due("0", Kit.ring("sl0;kv0o9;kv9o9;kv0o9").settled(1), 0);
        due("9", Kit.ring("sl0;kv9o9;kv0o9;kv9o9").settled(1), 9);
        due("only those that are on", off(Kit.ring("sl0;kv8o9;kv3o9;kv8o9"), 0, 2).settled(1), 3);
        due("one and one that are on", off(Kit.ring("sl0;kv8o9;kv3o9;kv8o9"), 0).settled(1), 3);
        SpokeRing none = off(Kit.ring("sl0;k;k;k"), 0, 1, 2);
        due("nobody is on", none.settled(1), NONE);
        due("nobody is on: behind none", none.settled(0), 0);
        // 1 and 2 break in the first turn, in which 0 comes nearer to nobody: behind none they are on
        due("on behind none", Kit.ring("sl16;kv7o9;ks7v2o9;ks11v2o9").settled(1), 2);
        // 0 comes nearer to 3 in the third and the seventh turn; 1 is broken by then
        SpokeRing moved = Kit.ring("sl16;kv7o1;ks7v2o9;kv6o9;kv4o9");
        due("behind seven", moved.settled(0), 7);
        due("as they are behind these", moved.settled(1), 4);
    }

    private static void settledNone() {
        Kit.says("Promise 25", "NONE: not within 99, no WHEEL, no such what");
        SpokeRing none = new SpokeRing();
        Kit.refused("no wheel", none, () -> none.settled(0), NONE);
        Kit.refused("no wheel, the view", none, () -> none.settled(1), NONE);
        SpokeRing x = Kit.ring("k;k;k");
        for (int what : new int[] {-1, 2, FAR[0], FAR[1]}) {
            Kit.refused("what " + what, x, () -> x.settled(what), NONE);
        }
    }

    // ---- SEEN, VIEWS, ASK ----

    private static void seenTen() {
        Kit.says("Promise 26", "SEEN: how many there are. NONE: no WHEEL, out of bounds, there are ten; "
                + "Terms 3: SEEN (10 at most), n (1 .. 20)");
        SpokeRing none = new SpokeRing();
        Kit.refused("no wheel", none, () -> none.seen(1, true), NONE);
        SpokeRing x = Kit.ring("sl0;k;k;k");
        for (int n : new int[] {0, -1, 21, 32, FAR[0], FAR[1]}) {
            Kit.refused("n " + n, x, () -> x.seen(n, true), NONE);
            Kit.refused("n " + n + ", not", x, () -> x.seen(n, false), NONE);
        }
        due("1", x.seen(1, true), 1);
        due("20", x.seen(20, true), 2);
        due("the same one again", x.seen(20, true), 3);
        for (int i = 4; i <= 10; i++) {
            due("seen " + i, x.seen(i, true), i);
        }
        Kit.refused("an eleventh", x, () -> x.seen(1, true), NONE);
        Kit.refused("an eleventh, not", x, () -> x.seen(1, false), NONE);
        due("the eleventh does not tell", x.views(2, NONE) > 0, true);
    }

    private static void seenLatest() {
        Kit.says("Terms 3", "as told, behind n (1 .. 20) TURNS, each a TURN, the latest of them was DONE, or was not");
        // each is done by who is down in it alone
        SpokeRing x = Kit.ring("sl0;kv9o9;kv9o9;kv9o9");
        for (int n = 1; n <= 20; n++) {
            Kit.tell(x, 0, "sl0;kv9o9;kv9o9;kv9o9");
            x.seen(n, true);
            for (int spoke = 0; spoke < 3; spoke++) {
                due("done behind " + n + ": " + spoke, x.views(spoke, NONE), n % 3 == spoke ? 5 : 10);
            }
            Kit.tell(x, 0, "sl0;kv9o9;kv9o9;kv9o9");
            x.seen(n, false);
            for (int spoke = 0; spoke < 3; spoke++) {
                due("not behind " + n + ": " + spoke, x.views(spoke, NONE), n % 3 == spoke ? 5 : 0);
            }
        }
        // told twice it is seen still
        for (int told = 0; told < 2; told++) {
            Kit.tell(x, 0, "sl0;kv9o9;kv9o9;kv9o9");
            x.seen(4, told == 0);
            x.seen(4, told == 0);
            due("told twice: how many", x.count(12), 2);
            due("told twice", x.views(1, NONE), 5);
            due("told twice, the first", x.views(1, 0), told == 0 ? 5 : 0);
        }
        Kit.tell(x, 0, "sl0;kv0o9;kv0o9;kv0o9");
        x.seen(20, true);
        x.seen(1, false);
        due("20 is 2's", x.views(2, NONE), 5);
        due("1 is not 2's", x.views(1, NONE), 0);
    }

    private static void viewsZeroToNine() {
        Kit.says("Promise 27", "VIEWS: how many (i NONE), the i-th; Terms 3: which VIEW (0 .. 9) .. (rising)");
        SpokeRing x = Kit.ring("sl0;kv5o9;kv5o9;kv5o9");
        due("all ten", x.views(1, NONE), 10);
        for (int i = 0; i <= 9; i++) {
            due("the " + i + "-th", x.views(1, i), i);
        }
        due("no 10th", x.views(1, 10), NONE);
        x.seen(1, false);
        due("five", x.views(1, NONE), 5);
        for (int i = 0; i <= 4; i++) {
            due("the " + i + "-th of five", x.views(1, i), i);
        }
        due("no 5th of five", x.views(1, 5), NONE);
        SpokeRing y = Kit.ring("sl0;kv5o9;kv5o9;kv5o9");
        y.seen(1, true);
        for (int i = 0; i <= 4; i++) {
            due("the " + i + "-th of the others", y.views(1, i), i + 5);
        }
        y.seen(1, false);
        due("none", y.views(1, NONE), 0);
        due("no first of none", y.views(1, 0), NONE);
    }

    private static void viewsAsTold() {
        Kit.says("Terms 3", "it may have been told with so that all SEEN is so (all else as told)");
        SpokeRing x = Kit.ring("sl16w3a0;kv0o0;ks9v9o9;kv0o0;kv0o0", "y:w*2+v-v");
        x.law(NONE);
        x.seen(1, true);
        due("as told", x.views(1, NONE), 5);
        off(x, 1);
        x.turn();
        x.wet(9);
        x.vote(true);
        x.slip(0);
        due("all are on as told, whoever is off now", x.views(1, NONE), 5);
        due("views as told, the bottom, too", x.views(0, NONE), 10);
        x.law(0);
        x.seen(2, true);
        // by the law that holds all but 1 have 6 behind the first turn: w is 3 as told
        due("wet as told", x.views(1, NONE), 5);
        x.wet(0);
        due("not as it is", x.views(1, NONE), 5);
        // 0's view comes to 9 by one each time 1 or 2 is down: what was seen first holds with what was seen then
        for (boolean done : new boolean[] {true, false}) {
            SpokeRing all = Kit.ring("sl0;kv9o0;kv9o9;kv9o9");
            all.seen(done ? 3 : 6, done);
            due("one of " + done, all.views(0, NONE), done ? 7 : 1);
            all.seen(done ? 6 : 3, done);
            due("both of " + done, all.views(0, NONE), done ? 7 : 1);
        }
        SpokeRing y = Kit.ring("sl16;kv9o9;ks7v9o9;kv9o9;k");
        y.seen(1, false);
        due("1 breaks as it is down, whatever its view", y.views(1, NONE), 10);
        y.turn();
        y.mend(1);
        due("still as told", y.views(1, NONE), 10);
        SpokeRing moved = Kit.ring("sl0;kv3;kv9o9;kv0o9", "y:0");
        moved.turn();
        moved.turn();
        moved.law(NONE);
        due("1 has another view now", Kit.spoke(moved, 1, 1), 0);
        moved.seen(1, true);
        due("the others' views as told", moved.views(0, NONE), 10);
        SpokeRing a = Kit.ring("sl0a1;kv9o9;kv0o9;kv0o9");
        a.vote(false);
        a.seen(1, true);
        due("all vote as told", a.views(2, NONE), 5);
        SpokeRing late = Kit.late("sl0;kv0;k;k", 999);
        Kit.tell(late, 1, "y:t=0?9;y:0");
        late.law(0);
        late.seen(2, true);
        due("t is 0 at first as told", late.views(0, NONE), 10);
        late.seen(3, true);
        due("then it is not", late.views(0, NONE), 0);
    }

    private static void viewsNone() {
        Kit.says("Promise 27", "NONE: no such one, no such SPOKE");
        SpokeRing none = new SpokeRing();
        Kit.refused("no wheel", none, () -> none.views(0, NONE), NONE);
        SpokeRing x = Kit.ring("k;k;k");
        for (int odd : new int[] {-1, 3, 8, FAR[0], FAR[1]}) {
            Kit.refused("spoke " + odd, x, () -> x.views(odd, NONE), NONE);
            Kit.refused("spoke " + odd + ", the first", x, () -> x.views(odd, 0), NONE);
        }
        for (int odd : new int[] {-2, 10, FAR[0], FAR[1]}) {
            Kit.refused("i " + odd, x, () -> x.views(0, odd), NONE);
        }
        off(x, 0);
        due("one that is off can be asked for", x.views(0, NONE), 10);
    }

    private static void askOneToTwenty() {
        Kit.says("Terms 3", "ASK of a SPOKE: the n (1 .. 20) for which DONE and not are least apart in number among these");
        // done by who is down: five to five for its own turn
        SpokeRing x = Kit.ring(wheel("sl0", 8, "kv9o9"));
        for (int spoke = 0; spoke < 8; spoke++) {
            due("its first turn " + spoke, x.ask(spoke), spoke == 0 ? 8 : spoke);
        }
        // all vote and all but one have 0; in one turn alone all others see what he has, who is down
        SpokeRing twentieth = Kit.ring("sl0a1;kv0;kv0;kv0", "y:t=19&d>4?9;y:v");
        due("the 20th", twentieth.ask(2), 20);
        SpokeRing behind = Kit.ring("sl0a1;kv0;kv0;kv0", "y:t=20&d>4?9;y:v");
        due("not the 21st", behind.ask(0), 1);
        SpokeRing nineteenth = Kit.ring("sl0a1;kv0;kv0;kv0", "y:t=18&d>4?9;y:v");
        due("the 19th", nineteenth.ask(1), 19);
        // among these: the least and the highest VIEW, too, each alone
        for (String alone : new String[] {"d<1", "d>8"}) {
            SpokeRing one = Kit.ring("sl0a1;kv0;kv0;kv0", "y:t=1&" + alone + "?9;y:v");
            one.seen(2, true);
            due(alone + ": one fits", one.views(2, NONE), 1);
            due(alone + ": that one", one.views(2, 0), alone.equals("d<1") ? 0 : 9);
            due(alone + ": all n are alike for one", one.ask(2), 1);
            SpokeRing two = Kit.ring("sl0a1;kv0;kv0;kv0", "y:t=4&" + alone + "?9;y:t=1&d>0&d<9?9;y:v");
            two.seen(2, false);
            due(alone + ": two fit", two.views(2, NONE), 2);
            due(alone + ": the fifth tells these two apart", two.ask(2), 5);
        }
        // by asking VIEWS for each n
        int[] done = new int[21];
        int best = 1;
        for (int n = 1; n <= 20; n++) {
            SpokeRing y = Kit.ring("sl0;kv0o0;kv9o9;kv4o5;kv7o2;kv1o0");
            y.seen(n, true);
            done[n] = y.views(0, NONE);
            best = Math.abs(2 * done[n] - 10) < Math.abs(2 * done[best] - 10) ? n : best;
        }
        due("as VIEWS tells", Kit.ring("sl0;kv0o0;kv9o9;kv4o5;kv7o2;kv1o0").ask(0), best);
    }

    private static void askLeast() {
        Kit.says("Terms 3", "(of several the least)");
        SpokeRing four = off(Kit.ring("sl0;kv0o9;kv0o9;kv0o9;kv0o9"), 0);
        due("4 of 4, 8, 12 ..", four.ask(0), 4);
        SpokeRing alike = Kit.ring("sl0;kv9;kv9;kv9", "y:0");
        due("by the law it is 0 ahead of its turn: nothing tells", alike.ask(0), 1);
        due("but the first", alike.ask(1), 1);
        SpokeRing none = Kit.ring("sl16;kv9o9;ks7v9o9;kv9o9;k");
        due("whatever its view: 1", none.ask(1), 1);
        SpokeRing x = Kit.ring("sl0;kv9o9;kv9o9;kv9o9");
        due("3 of 3, 6, 9 ..", x.ask(0), 3);
        due("2 of 2, 5, 8 ..", x.ask(2), 2);
        due("1 of 1, 4, 7 ..", x.ask(1), 1);
        for (int i = 0; i < 9; i++) {
            due("asked again and again", x.ask(i % 3), i % 3 == 0 ? 3 : i % 3);
        }
        SpokeRing twentieth = Kit.ring("sl0a1;kv0;kv0;kv0", "y:t=19&d>4?9;y:v");
        for (int i = 0; i < 5; i++) {
            due("the 20th again and again", twentieth.ask(2), 20);
            due("nothing tells of another", twentieth.ask(0), 1);
        }
        x.seen(1, true);
        due("behind what was seen all are alike", x.ask(1), 1);
        due("another's is not", x.ask(2), 2);
    }

    private static void askNone() {
        Kit.says("Promise 28", "NONE: nothing fits, no such SPOKE");
        SpokeRing none = new SpokeRing();
        Kit.refused("no wheel", none, () -> none.ask(0), NONE);
        SpokeRing x = Kit.ring("sl0;k;k;k");
        for (int odd : new int[] {-1, 3, 8, FAR[0], FAR[1]}) {
            Kit.refused("spoke " + odd, x, () -> x.ask(odd), NONE);
        }
        x.seen(1, true);
        x.seen(1, false);
        for (int spoke = 0; spoke < 3; spoke++) {
            int asked = spoke;
            Kit.refused("nothing fits " + spoke, x, () -> x.ask(asked), NONE);
        }
    }

    // ---- POWER, HOW OFTEN, FIRST ----

    private static void powerSets() {
        Kit.says("Terms 3", "POWER of a SPOKE that is ON: of all sets (the empty one, too) of other SPOKES that are ON how many "
                + "there are of which twice the number is not above the number of all that are ON, but twice the number with "
                + "this one is");
        int[] want = {0, 1, 1, 2, 3, 6, 10, 20, 35};
        SpokeRing x = Kit.ring(wheel("sl0c99", 8, "k"));
        for (int on = 8; on >= 1; on--) {
            for (int spoke = 0; spoke < 8; spoke++) {
                due(on + " on: power of " + spoke, x.power(spoke), spoke < on ? want[on] : NONE);
            }
            off(x, on - 1);
        }
        SpokeRing first = off(Kit.ring(wheel("sl0", 5, "k")), 0, 2);
        due("1 of three", first.power(1), 2);
        due("4 of three", first.power(4), 2);
        SpokeRing broken = Kit.ring("sl16;k;ks7;k;k");
        broken.turn();
        due("one is broken: three", broken.power(3), 2);
        due("by a vote of all, too, views do not matter", Kit.ring("sa1;kv0;kv9;kv0").power(1), 2);
    }

    private static void powerNone() {
        Kit.says("Promise 29", "NONE: no such SPOKE, not ON");
        SpokeRing none = new SpokeRing();
        Kit.refused("no wheel", none, () -> none.power(0), NONE);
        SpokeRing x = Kit.ring("sl16;k;ks7;k;k");
        for (int odd : new int[] {-1, 4, 8, 32, FAR[0], FAR[1]}) {
            Kit.refused("spoke " + odd, x, () -> x.power(odd), NONE);
        }
        off(x, 0);
        x.turn();
        Kit.refused("off", x, () -> x.power(0), NONE);
        Kit.refused("broken", x, () -> x.power(1), NONE);
    }

    private static void oftenDown() {
        Kit.says("Terms 3", "HOW OFTEN a SPOKE is DOWN in the next n (1 .. 99) TURNS (its place at the bottom, and it ON "
                + "behind (i) of that TURN)");
        for (int spokes = 3; spokes <= 8; spokes++) {
            SpokeRing x = Kit.ring(wheel("sl0", spokes, "k"));
            for (int n : new int[] {1, 2, spokes - 1, spokes, spokes + 1, 98, 99}) {
                for (int spoke = 0; spoke < spokes; spoke++) {
                    int times = 0;
                    for (int i = 1; i <= n; i++) {
                        times += i % spokes == spoke ? 1 : 0;
                    }
                    due(spoke + " of " + spokes + " in " + n, x.often(spoke, n), times);
                }
            }
        }
        SpokeRing x = Kit.ring("sl16;ks8;ks7;ks12;ks99;ks99");
        due("broken as it comes down", x.often(1, 99), 0);
        due("it just bears it", x.often(2, 99), 20);
        due("once, then it breaks by another: never", x.often(0, 99), 19);
        due("off", off(Kit.ring("sl0;k;k;k"), 1).often(1, 99), 0);
        SpokeRing twice = Kit.ring("sl16;ks99;ks99;ks99;ks7;ks11");
        // 3 breaks behind three turns, 4 then bears 12 and is broken in the fourth
        due("4 as it comes down", twice.often(4, 99), 0);
        due("2 goes on", twice.often(2, 7), 2);
    }

    private static void oftenNone() {
        Kit.says("Promise 30", "NONE: no such SPOKE, out of bounds");
        SpokeRing none = new SpokeRing();
        Kit.refused("no wheel", none, () -> none.often(0, 1), NONE);
        SpokeRing x = Kit.ring("sl0;k;k;k");
        for (int odd : new int[] {-1, 3, 8, FAR[0], FAR[1]}) {
            Kit.refused("spoke " + odd, x, () -> x.often(odd, 1), NONE);
        }
        for (int odd : new int[] {0, -1, 100, FAR[0], FAR[1]}) {
            Kit.refused("n " + odd, x, () -> x.often(0, odd), NONE);
        }
        due("1", x.often(1, 1), 1);
        due("99", x.often(0, 99), 33);
    }

    private static void firstBroken() {
        Kit.says("Terms 3", "FIRST of a SPOKE: in how many TURNS (1 .. 99) it is BROKEN first");
        due("in the next", Kit.ring("sl16;k;ks7;k;k").first(1), 1);
        for (int spokes = 3; spokes <= 8; spokes++) {
            SpokeRing x = Kit.ring("sl16;ks7" + ";k".repeat(spokes - 1));
            due("once round " + spokes, x.first(0), spokes);
            x.turn();
            due("one turn on of " + spokes, x.first(0), spokes - 1);
        }
        due("beside the bottom", Kit.ring("sl16;k;k;ks3;k;k").first(2), 1);
        due("at most what he can bear", Kit.ring("sl16;ks8;ks8;ks8").first(0), NONE);
        // 3 breaks in the third turn; what falls to it falls to 0 then, who bears 12 in the seventh
        due("in a second round", Kit.ring("sl16;ks11;ks99;ks99;ks7").first(0), 4);
        due("from others that break", Kit.ring("sl16;ks99;ks99;ks11;ks99;ks7").first(2), NONE);
        SpokeRing round = Kit.ring("sl16;ks8;ks99;ks99;ks99;ks99;ks99;ks99;ks7");
        due("7 in the seventh", round.first(7), 7);
        due("0 behind that", round.first(0), 8);
        SpokeRing later = Kit.ring("sl16;ks11;ks99;ks99;ks99;ks99;ks99;ks7;ks99");
        due("6 in the sixth", later.first(6), 6);
        due("0 does not break", later.first(0), NONE);
        SpokeRing second = Kit.ring("sl16;ks99;ks8;ks99;ks99;ks99;ks99;ks99;ks99");
        off(second, 0);
        due("1 bears what falls to 0, too", second.first(1), 1);
        // 4 breaks in its turn; 5 bears 3 and 1 in its own, but 3 and 2 as the place of 4 is at the bottom again
        SpokeRing again = Kit.ring("sl6;k;k;k;k;ks2;ks4;k;k");
        due("4 in the fourth", again.first(4), 4);
        due("5 in a second round", again.first(5), 12);
        due("6 never", again.first(6), NONE);
        again.turn();
        due("5, one turn on", again.first(5), 11);
        SpokeRing third = Kit.ring("sl26;ks12;ks14;ks24;ks23;ks17;ks21;ks14;ks23");
        int last = third.first(7);
        due("7 in a third round", last, 22);
        for (int i = 1; i <= 22; i++) {
            due("7 is broken then and not ahead of it, " + i, third.all(6) >> 7, 0);
            third.turn();
            due("by TURNS " + i, third.first(7), i == 22 ? NONE : 22 - i);
        }
        due("7 is broken", third.all(6) >> 7, 1);
    }

    private static void firstNone() {
        Kit.says("Promise 31", "NONE: not within 99 (BROKEN already, too), no such SPOKE");
        SpokeRing none = new SpokeRing();
        Kit.refused("no wheel", none, () -> none.first(0), NONE);
        SpokeRing x = Kit.ring("sl16;ks8;ks7;ks99;k");
        for (int odd : new int[] {-1, 4, 8, 32, FAR[0], FAR[1]}) {
            Kit.refused("spoke " + odd, x, () -> x.first(odd), NONE);
        }
        Kit.refused("never", x, () -> x.first(2), NONE);
        due("not yet", x.first(1), 1);
        x.turn();
        Kit.refused("broken already", x, () -> x.first(1), NONE);
        x.mend(1);
        due("mended: again", x.first(1), 4);
        off(x, 1);
        Kit.refused("off", x, () -> x.first(1), NONE);
    }

    // ---- GAME, RESTS ----

    private static int left(int load, int strength) {
        return Kit.ring("sl" + load + ";ks" + strength + ";k;k").game(0, 1, 0, 0, 0);
    }

    private static void gameWithin() {
        Kit.says("Terms 3", "GAME of two SPOKES that are ON: .. its STRENGTH less what it BEARS as the bottom is, 0 at least and "
                + "20 at most; is it OFF, 5");
        due("-1", left(16, 7), 0);
        due("0", left(16, 8), 0);
        due("1", left(16, 9), 1);
        due("far below", left(99, 1), 0);
        due("19", left(16, 27), 19);
        due("20", left(16, 28), 20);
        due("21", left(16, 29), 20);
        due("far above", left(0, 99), 20);
        SpokeRing x = Kit.ring("sl16;ks20;ks15;ks25;k");
        due("both on", x.game(0, 1, 0, 0, 0) * 100 + x.game(0, 1, 0, 0, 1), 1211);
        due("the first off", x.game(0, 1, 1, 0, 0) * 100 + x.game(0, 1, 1, 0, 1), 503);
        due("the second off", x.game(0, 1, 0, 1, 0) * 100 + x.game(0, 1, 0, 1, 1), 1205);
        due("both off", x.game(0, 1, 1, 1, 0) * 100 + x.game(0, 1, 1, 1, 1), 505);
        due("one who bears nothing: 25 at most 20", x.game(2, 1, 0, 0, 0), 20);
        due("what falls to the second falls on him", x.game(2, 1, 0, 1, 0), 20);
        x.turn();
        due("as the bottom is: 1", x.game(0, 1, 0, 0, 0) * 100 + x.game(0, 1, 0, 0, 1), 1607);
        due("1 is off: 25 less 12", x.game(2, 1, 0, 1, 0), 13);
        SpokeRing two = off(Kit.ring("sl16;ks17;ks16;k"), 2);
        due("no other is on: all falls on him", two.game(0, 1, 0, 1, 0), 1);
        due("he is off: all falls on the other", two.game(0, 1, 1, 0, 1), 0);
    }

    private static void gameHidden() {
        Kit.says("Promise 32", "HIDDEN: no such SPOKES, alike, one not ON, out of bounds");
        SpokeRing none = new SpokeRing();
        Kit.refused("no wheel", none, () -> none.game(0, 1, 0, 0, 0), HIDDEN);
        SpokeRing x = Kit.ring("sl16;k;ks7;k;k;k");
        for (int odd : new int[] {-1, 5, 8, 32, FAR[0], FAR[1]}) {
            Kit.refused("one " + odd, x, () -> x.game(odd, 0, 0, 0, 0), HIDDEN);
            Kit.refused("other " + odd, x, () -> x.game(0, odd, 0, 0, 0), HIDDEN);
        }
        for (int odd : new int[] {-1, 2, FAR[0], FAR[1]}) {
            Kit.refused("x " + odd, x, () -> x.game(0, 2, odd, 0, 0), HIDDEN);
            Kit.refused("y " + odd, x, () -> x.game(0, 2, 0, odd, 0), HIDDEN);
            Kit.refused("what " + odd, x, () -> x.game(0, 2, 0, 0, odd), HIDDEN);
        }
        Kit.refused("alike", x, () -> x.game(2, 2, 0, 0, 0), HIDDEN);
        off(x, 3);
        x.turn();
        Kit.refused("one is broken", x, () -> x.game(1, 0, 0, 0, 0), HIDDEN);
        Kit.refused("the other is broken", x, () -> x.game(0, 1, 0, 0, 0), HIDDEN);
        Kit.refused("one is off", x, () -> x.game(3, 0, 0, 0, 0), HIDDEN);
        Kit.refused("the other is off", x, () -> x.game(0, 3, 0, 0, 0), HIDDEN);
        due("these two are on", x.game(0, 2, 1, 0, 0), 5);
    }

    private static void asTheBottomIs() {
        Kit.says("Terms 3", "what it BEARS as the bottom is; at the bottom behind all of these; what it BEARS now; in the next TURN");
        SpokeRing x = Kit.ring("sl16;ks30v0o9;ks12v9o9;ks10v0o9;ks7v0o9;ks30v0o9");
        due("1 is for it", x.turn(), 1);
        due("2 is not", x.turn(), 0);
        due("2 is not, held", x.hold(), 0);
        // place 2, TURN 3, DONE once
        int[] bears = {0, 4, 8, 4, 0};
        for (int spoke = 0; spoke < 5; spoke++) {
            due("bears " + spoke, Kit.spoke(x, spoke, 4), bears[spoke]);
            due("place " + spoke, x.odds(spoke, 0, 40), spoke == 2 ? 1000000000 : 0);
            due("place " + spoke + " behind one", x.odds(spoke, 1, 40), spoke == 2 ? 400000000 : spoke == 3 ? 600000000 : 0);
        }
        due("2 has", x.game(2, 3, 0, 0, 0), 2);
        due("3 has", x.game(2, 3, 0, 0, 1), 3);
        due("1 has", x.game(1, 0, 0, 0, 0), 8);
        due("3 has, 2 is off", x.game(3, 2, 0, 1, 0), 0);
        due("tight", x.all(10), 2);
        due("breaking", x.all(11), 8);
    }

    private static void restsByGame() {
        Kit.says("Terms 3", "RESTS: 10 times x and y by which neither has more by another of its own");
        for (int i = 0; i < 81; i++) {
            SpokeRing x = Kit.ring("sl16;ks" + (8 + i % 9) + ";ks" + (8 + i / 9) + ";ks" + (8 + i % 7) + ";ks20");
            for (int turns = 0; turns < 4; turns++) {
                for (int pair = 0; pair < 16; pair++) {
                    rests(x, pair / 4, pair % 4);
                }
                x.turn();
            }
        }
    }

    private static void rests(SpokeRing x, int one, int other) {
        int found = 0;
        for (int row = 0; row < 4; row++) {
            int a = row / 2;
            int b = row % 2;
            if (x.game(one, other, 1 - a, b, 0) <= x.game(one, other, a, b, 0)
                    && x.game(one, other, a, 1 - b, 1) <= x.game(one, other, a, b, 1)
                    && x.game(one, other, a, b, 0) != HIDDEN) {
                due("rest of " + one + " and " + other, x.rests(one, other, found), 10 * a + b);
                found++;
            }
        }
        boolean two = x.game(one, other, 0, 0, 0) != HIDDEN;
        due("rests of " + one + " and " + other, x.rests(one, other, NONE), two ? found : NONE);
    }

    private static void restsRising() {
        Kit.says("Promise 33", "RESTS: how many (i NONE), the i-th; Terms 3: 10 times x and y by which neither has more by "
                + "another of its own (rising)");
        // 0 and 1 bear nothing as 3 of six is at the bottom: what they have is their strength
        int[][] rows = {{6, 6, 1, 0}, {6, 5, 2, 0, 1}, {6, 4, 1, 1}, {5, 6, 2, 0, 10}, {5, 5, 4, 0, 1, 10, 11},
            {5, 4, 2, 1, 11}, {4, 6, 1, 10}, {4, 5, 2, 10, 11}, {4, 4, 1, 11}};
        for (int[] row : rows) {
            SpokeRing x = Kit.ring("sl16;ks" + row[0] + ";ks" + row[1] + ";k;k;k;k");
            off(x, 0, 1);
            x.turn();
            x.turn();
            x.turn();
            x.away(0);
            x.away(1);
            String what = row[0] + " and " + row[1];
            due(what + ": how many", x.rests(0, 1, NONE), row[2]);
            for (int i = 0; i < row[2]; i++) {
                due(what + ": the " + i + "-th", x.rests(0, 1, i), row[3 + i]);
            }
            for (int i = row[2]; i < 5; i++) {
                int no = i;
                Kit.refused(what + ": no " + i + "-th", x, () -> x.rests(0, 1, no), NONE);
            }
        }
        // 8 each: with both on 8 is on 0, 4 is on 1; is 0 off, 12 are on 1: none is at rest but by another
        SpokeRing x = Kit.ring("sl16;ks12;ks10;k;k");
        due("4 or 5, 6 or 5", x.rests(0, 1, NONE), 1);
        due("0 off; 1 has 0 then, off he has 5", x.rests(0, 1, 0), 11);
    }

    private static void restsNone() {
        Kit.says("Promise 33", "NONE: no such one, no such SPOKES, alike, one not ON");
        SpokeRing none = new SpokeRing();
        Kit.refused("no wheel", none, () -> none.rests(0, 1, NONE), NONE);
        SpokeRing x = Kit.ring("sl16;k;ks7;k;k;k");
        for (int odd : new int[] {-1, 5, 8, 32, FAR[0], FAR[1]}) {
            Kit.refused("one " + odd, x, () -> x.rests(odd, 0, NONE), NONE);
            Kit.refused("other " + odd, x, () -> x.rests(0, odd, NONE), NONE);
        }
        for (int odd : new int[] {-2, 4, 99, FAR[0], FAR[1]}) {
            Kit.refused("i " + odd, x, () -> x.rests(0, 2, odd), NONE);
        }
        Kit.refused("alike", x, () -> x.rests(2, 2, NONE), NONE);
        off(x, 3);
        x.turn();
        Kit.refused("one is broken", x, () -> x.rests(1, 0, NONE), NONE);
        Kit.refused("the other is broken", x, () -> x.rests(0, 1, NONE), NONE);
        Kit.refused("one is off", x, () -> x.rests(3, 0, NONE), NONE);
        Kit.refused("the other is off", x, () -> x.rests(0, 3, 0), NONE);
    }

    // ---- ODDS, SHARES ----

    private static void oddsParts() {
        Kit.says("Terms 3", "ODDS of a place for n (0 .. 8) and a chance (0 .. 100): each of n times it is HELD by chance, else a "
                + "TURN: of 10 to the 9 parts those by which that place is at the bottom behind all of these");
        for (int spokes = 3; spokes <= 8; spokes++) {
            SpokeRing x = Kit.ring(wheel("", spokes, "k"));
            for (int spot = 0; spot < spokes; spot++) {
                due("none, " + spot, x.odds(spot, 0, 37), spot == 0 ? 1000000000 : 0);
                for (int n = 1; n <= 8; n++) {
                    due("never held, " + spot + " behind " + n, x.odds(spot, n, 0), n % spokes == spot ? 1000000000 : 0);
                    due("ever held, " + spot + " behind " + n, x.odds(spot, n, 100), spot == 0 ? 1000000000 : 0);
                }
            }
            for (int n = 0; n <= 8; n++) {
                for (int chance : new int[] {1, 33, 50, 77, 99}) {
                    int sum = 0;
                    for (int spot = 0; spot < spokes; spot++) {
                        sum += x.odds(spot, n, chance);
                    }
                    due("all parts behind " + n + " by " + chance, sum, 1000000000);
                }
            }
        }
        SpokeRing x = Kit.ring(wheel("sc0", 8, "k"));
        due("held once in two", x.odds(1, 2, 30), 420000000);
        due("held twice, without coins", x.odds(0, 2, 30), 90000000);
        due("held in none", x.odds(2, 2, 30), 490000000);
        due("of eight, four", x.odds(4, 8, 50), 273437500);
        x.give(50);
        off(x, 0, 1);
        due("places of those that are off, too", x.odds(1, 1, 30), 700000000);
        x.turn();
        due("from where the bottom is", x.odds(1, 1, 30), 300000000);
        due("on from there", x.odds(2, 1, 30), 700000000);
    }

    private static void oddsCut() {
        Kit.says("Terms 3", "(of each part chance 100ths, cut, HELD)");
        SpokeRing x = Kit.ring(wheel("", 8, "k"));
        int[] held = {1000000000, 10000000, 100000, 1000, 10, 0, 0, 0};
        int[] turned = {1000000000, 10000000, 100000, 1000, 10, 1, 1, 1};
        for (int n = 0; n <= 7; n++) {
            due("1 of 100, held " + n + " times", x.odds(0, n, 1), held[n]);
            due("99 of 100, turned " + n + " times", x.odds(n, n, 99), turned[n]);
        }
        int[] third = {1000000000, 330000000, 108900000, 35937000, 11859210, 3913539};
        for (int n = 0; n <= 5; n++) {
            due("33 of 100, held " + n + " times", x.odds(0, n, 33), third[n]);
        }
        // 29 of 100 of 7,072,810 are 2,051,114.9
        due("29 of 100 five times", x.odds(0, 5, 29), 2051114);
        // 29 of 100 of 254,116,810 are 73,693,874.9: what is cut is a TURN
        due("29 of 100, turned five times", x.odds(5, 5, 29), 254116810 - 73693874);
    }

    private static void oddsNone() {
        Kit.says("Promise 34", "NONE: no such place, out of bounds");
        SpokeRing none = new SpokeRing();
        Kit.refused("no wheel", none, () -> none.odds(0, 0, 0), NONE);
        SpokeRing x = Kit.ring("k;k;k");
        for (int odd : new int[] {-1, 3, 8, FAR[0], FAR[1]}) {
            Kit.refused("place " + odd, x, () -> x.odds(odd, 1, 50), NONE);
        }
        for (int odd : new int[] {-1, 9, 32, FAR[0], FAR[1]}) {
            Kit.refused("n " + odd, x, () -> x.odds(0, odd, 50), NONE);
        }
        for (int odd : new int[] {-1, 101, FAR[0], FAR[1]}) {
            Kit.refused("chance " + odd, x, () -> x.odds(0, 1, odd), NONE);
        }
    }

    private static void sharesCut() {
        Kit.says("Terms 3", "SHARES of c (0 .. 999) by STRENGTH of those that are ON: for a SPOKE c times its by that of all, cut "
                + "(OFF or BROKEN: 0; none: 0)");
        SpokeRing x = Kit.ring("sl16;ks10;ks7;ks20;ks30");
        due("0", x.shares(0, 0), 0);
        due("1, cut", x.shares(3, 1), 0);
        due("2, cut", x.shares(3, 2), 0);
        due("3, cut", x.shares(3, 3), 1);
        due("67", x.shares(3, 67), 30);
        due("66, cut", x.shares(3, 66), 29);
        due("999", x.shares(3, 999), 447);
        due("999 of the least", x.shares(1, 999), 104);
        x.turn();
        due("broken", x.shares(1, 999), 0);
        due("of the others", x.shares(3, 999), 499);
        off(x, 0);
        due("off", x.shares(0, 999), 0);
        due("of two", x.shares(3, 999), 599);
        due("of two, the other", x.shares(2, 999), 399);
        off(x, 2);
        due("alone", x.shares(3, 999), 999);
        off(x, 3);
        due("none is on", x.shares(3, 999), 0);
        due("most by most", Kit.ring("ks99;ks1;ks1").shares(0, 999), 979);
    }

    private static void sharesNone() {
        Kit.says("Promise 35", "NONE: no such SPOKE, out of bounds");
        SpokeRing none = new SpokeRing();
        Kit.refused("no wheel", none, () -> none.shares(0, 0), NONE);
        SpokeRing x = Kit.ring("k;k;k");
        for (int odd : new int[] {-1, 3, 8, FAR[0], FAR[1]}) {
            Kit.refused("spoke " + odd, x, () -> x.shares(odd, 1), NONE);
        }
        for (int odd : new int[] {-1, 1000, FAR[0], FAR[1]}) {
            Kit.refused("c " + odd, x, () -> x.shares(0, odd), NONE);
        }
        off(x, 0);
        Kit.refused("c out of bounds, off", x, () -> x.shares(0, 1000), NONE);
    }

    // ---- ALL, COUNT ----

    private static void allLowest() {
        Kit.says("Terms 3", "STRONGEST, MOST OBSTINATE: SPOKES; HIGHEST, LOWEST: with the most, the least VIEW (of several the "
                + "lowest, all)");
        SpokeRing x = Kit.ring("ks9v5o3;ks9v5o3;ks9v5o3");
        for (int what = 0; what <= 3; what++) {
            due("all alike, " + what, x.all(what), 0);
        }
        SpokeRing y = Kit.ring("ks1v1o1;ks9v9o9;ks5v5o5;ks9v9o9;ks1v1o1");
        due("strongest of two", y.all(0), 1);
        due("most obstinate of two", y.all(1), 1);
        due("highest of two", y.all(2), 1);
        due("lowest of two", y.all(3), 0);
        SpokeRing z = Kit.ring(wheel("", 7, "ks50v4o4") + ";ks51v5o5");
        due("the last is strongest", z.all(0), 7);
        due("the last is most obstinate", z.all(1), 7);
        due("the last is highest", z.all(2), 7);
        due("the first is lowest", z.all(3), 0);
        SpokeRing each = Kit.ring("ks1v9o1;ks9v5o2;ks5v4o9;ks6v1o3");
        for (int what = 0; what <= 3; what++) {
            due("each another, " + what, each.all(what), new int[] {1, 2, 0, 3}[what]);
        }
        SpokeRing other = Kit.ring("ks6v1o3;ks1v9o9;ks5v4o1;ks9v5o2");
        for (int what = 0; what <= 3; what++) {
            due("each another again, " + what, other.all(what), new int[] {3, 1, 1, 0}[what]);
        }
        SpokeRing w = Kit.ring(wheel("", 7, "kv4") + ";kv3");
        due("the last is lowest", w.all(3), 7);
    }

    private static void allOnOrNot() {
        Kit.says("Terms 3", "(.. ON or not); ON: bits; OFF: bits; BROKEN: bits");
        SpokeRing x = Kit.ring("sl16;ks20v5o5;ks7v9o9;ks99v0o0;ks50v5o5");
        x.turn();
        off(x, 2);
        due("strongest, off", x.all(0), 2);
        due("most obstinate, broken", x.all(1), 1);
        due("highest, broken", x.all(2), 1);
        due("lowest, off", x.all(3), 2);
        due("on", x.all(4), 9);
        due("off bits", x.all(5), 4);
        due("broken bits", x.all(6), 2);
        SpokeRing all = Kit.ring(wheel("sl99c99", 8, "ks1"));
        due("eight on", all.all(4), 255);
        off(all, 0, 1, 2, 3, 4, 5, 6, 7);
        due("eight off", all.all(5), 255);
        due("none on", all.all(4), 0);
        all.away(7);
        all.turn();
        due("the last one is broken by all", all.all(6), 128);
        due("seven off", all.all(5), 127);
    }

    private static void allFor() {
        Kit.says("Terms 3", "FOR: how many that are ON have a VIEW of 5 or more");
        SpokeRing x = Kit.ring("sl0;kv4;kv5;kv6;kv9;kv0");
        due("three", x.all(7), 3);
        off(x, 1);
        due("one is off", x.all(7), 2);
        due("none", Kit.ring("kv4;kv4;kv4").all(7), 0);
        due("eight", Kit.ring(wheel("", 8, "kv5")).all(7), 8);
        SpokeRing y = Kit.ring("sl16;kv9o9;ks7v9o9;kv9o9;kv9o9");
        y.turn();
        due("one is broken", y.all(7), 3);
    }

    private static void allNext() {
        Kit.says("Terms 3", "NEXT: whether the next TURN would be DONE (1, 0)");
        SpokeRing x = Kit.ring("sl16;kv9o9;kv5o9;kv4o9;ks7v9o9;kv9o9");
        int[] next = {1, 0, 0, 1, 1};
        for (int i = 0; i < 5; i++) {
            due("next " + i, x.all(8), next[i]);
            due("it is so " + i, x.turn(), next[i]);
        }
        SpokeRing all = Kit.ring("sl0a1;kv4o0;kv5o9;kv0o9");
        due("by views as they come to be", all.all(8), 1);
        due("though none is for it but one", all.all(7), 1);
    }

    private static void allApart() {
        Kit.says("Terms 3", "APART: HIGHEST VIEW less LOWEST of those that are ON (none: 0)");
        SpokeRing x = Kit.ring("sl0;kv9;kv7;kv4;kv0");
        due("9", x.all(9), 9);
        off(x, 3);
        due("5", x.all(9), 5);
        off(x, 0);
        due("3", x.all(9), 3);
        off(x, 1);
        due("one is on", x.all(9), 0);
        off(x, 2);
        due("none", x.all(9), 0);
        due("the last two of eight", Kit.ring(wheel("", 6, "kv5") + ";kv2;kv9").all(9), 7);
        due("the last of eight", Kit.ring(wheel("", 7, "kv5") + ";kv3").all(9), 2);
        due("all 0", Kit.ring("kv0;kv0;kv0").all(9), 0);
        due("all 9", Kit.ring("kv9;kv9;kv9").all(9), 0);
    }

    private static void allTight() {
        Kit.says("Terms 3", "TIGHT: the SPOKE that is ON with the least STRENGTH left by what it BEARS now (of several the "
                + "lowest; none: NONE)");
        due("8, 4, 4: 2 left of each", Kit.ring("sl16;ks10;ks6;ks6").all(10), 0);
        due("1 has less", Kit.ring("sl16;ks10;ks5;ks6").all(10), 1);
        due("the last has less", Kit.ring("sl16;ks10;ks6;ks5").all(10), 2);
        due("less than none", Kit.ring("sl16;ks7;ks2;ks4").all(10), 1);
        SpokeRing x = Kit.ring("sl16;ks9;ks9;ks10;ks20");
        due("at 0", x.all(10), 0);
        x.turn();
        due("at 1", x.all(10), 1);
        off(x, 1);
        due("1 is off: what falls to it falls to 2", x.all(10), 2);
        off(x, 0, 2, 3);
        due("none", x.all(10), NONE);
        SpokeRing one = off(Kit.ring("sl99;ks1;ks1;ks1"), 0, 1);
        due("the last one alone", one.all(10), 2);
    }

    private static void allBreaking() {
        Kit.says("Terms 3", "BREAKING: SPOKES (bits) that would be BROKEN in the next TURN");
        due("just as much", Kit.ring("sl16;ks4;ks8;ks4").all(11), 0);
        due("three", Kit.ring("sl16;ks3;ks7;ks3").all(11), 7);
        due("not the one at the bottom now", Kit.ring("sl16;ks7;ks8;ks4;k").all(11), 0);
        SpokeRing x = Kit.ring("sl16;k;k;ks7;k");
        x.turn();
        due("2", x.all(11), 4);
        x.turn();
        due("not broken ones again", x.all(11), 0);
        SpokeRing last = Kit.ring(wheel("sl16", 7, "k") + ";ks3");
        for (int i = 0; i < 7; i++) {
            due("beside it or not " + i, last.all(11), i == 5 || i == 6 ? last.all(6) == 0 ? 128 : 0 : 0);
            last.turn();
        }
        SpokeRing round = Kit.ring("sl16;ks7;k;k");
        round.turn();
        round.turn();
        due("round to 0", round.all(11), 1);
        due("off", off(Kit.ring("sl99;k;ks1;k;k"), 1).all(11) & 2, 0);
    }

    private static void allNone() {
        Kit.says("Promise 36", "NONE: no WHEEL, no such what");
        SpokeRing none = new SpokeRing();
        for (int what = -1; what <= 12; what++) {
            int asked = what;
            Kit.refused("no wheel, " + what, none, () -> none.all(asked), NONE);
        }
        SpokeRing x = Kit.ring("k;k;k");
        for (int odd : new int[] {-1, 12, 13, FAR[0], FAR[1]}) {
            Kit.refused("what " + odd, x, () -> x.all(odd), NONE);
        }
        due("the last one", x.all(11), 0);
    }

    private static void countEach() {
        Kit.says("Promise 39", "0 SPOKES, 1 the LOAD (0: no WHEEL), .. 5 the LAW that holds (NONE), .. 9 whether ALL vote (1, 0), "
                + ".. 15 the place at the bottom (0 without a WHEEL)");
        SpokeRing none = new SpokeRing();
        int[] bare = {0, 0, 0, 0, 0, NONE, 0, 0, 0, 0, 0, 3, 0, 0, 0, 0};
        for (int what = 0; what <= 15; what++) {
            due("new: count(" + what + ")", none.count(what), bare[what]);
        }
        Kit.tell(none, 1, "y:1");
        Kit.tell(none, 2, "t");
        none.law(0);
        none.slip(0);
        Kit.type(none, "sl99;k;k");
        due("a law", none.count(2), 1);
        due("a journey", none.count(3), 1);
        due("bytes", none.count(4), 8);
        due("it holds", none.count(5), 0);
        due("slip 0", none.count(11), 0);
        none.text(0);
        due("a fault: no load", none.count(1), 0);
        due("a fault: no spokes", none.count(0), 0);
        SpokeRing x = Kit.ring("sl99w0c0a1;kv9;k;k;k;k;k;k;k");
        int[] told = {8, 99, 0, 0, 0, NONE, 0, 0, 0, 1, 0, 3, 0, 0, 0, 0};
        for (int what = 0; what <= 15; what++) {
            due("told: count(" + what + ")", x.count(what), told[what]);
        }
        due("no load told", Kit.ring("sl0;k;k;k").count(1), 0);
        SpokeRing far = Kit.late("sl0;k;k;k;kv9;kv9", 999);
        int[] late = {5, 0, 0, 0, 0, NONE, 999, 999, far.count(8), 0, 999, 0, 0, 60, 40, 4};
        for (int what = 0; what <= 15; what++) {
            due("late: count(" + what + ")", far.count(what), late[what]);
        }
        far.image();
        far.back();
        due("none can be undone", far.count(14), 0);
        due("the log is there still", far.count(13), 60);
    }

    private static void countHidden() {
        Kit.says("Promise 39", "HIDDEN for others");
        SpokeRing none = new SpokeRing();
        SpokeRing x = Kit.ring("k;k;k");
        for (int odd : new int[] {-1, 16, 17, -2, FAR[0], FAR[1]}) {
            Kit.refused("new: count(" + odd + ")", none, () -> none.count(odd), HIDDEN);
            Kit.refused("count(" + odd + ")", x, () -> x.count(odd), HIDDEN);
        }
    }
}
