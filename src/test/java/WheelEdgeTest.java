import java.math.BigInteger;

/** Terms 2 and 4 and the promises of acts (6, 8 to 18, 37, 38): a test for each sentence that names a boundary. */
public final class WheelEdgeTest {
    private static final int NONE = SpokeRing.NONE;
    private static final int NO_ELEMENT = -777;

    public static void main(String[] args) {
        lastBesideFirst();
        bottomNotOn();
        halvesRoundedUp();
        fallsOn();
        fallsToNobody();
        moreThanStrength();
        allAtOnce();
        onStill();
        othersThatAreOn();
        viewsAsTheyWere();
        heldWithin();
        obstinate();
        shorterWay();
        turnModulo100();
        moreThanLess();
        fiveOrMore();
        bottomGoesRound();
        latestSixty();
        brokenInIt();
        coinsAtMost();
        turnsAtMost();
        byHandCosts();
        actsUndone();
        notActs();
        yearsDraws();
        yearsMend();
        yearsBelowSlip();
        yearsForNothing();
        yearsAreActs();
        imageKeeps();
        p06Spoke();
        p06NoSuch();
        p08Slip();
        p09None();
        p10None();
        p11None();
        p12None();
        p13False();
        p14None();
        p15None();
        p16None();
        p17None();
        p18None();
        p37Instead();
        p37None();
        p38None();
        Kit.end("WheelEdgeTest");
    }

    private static void due(String what, long got, long want) {
        Kit.due(what, got, want);
    }

    private static void due(String what, boolean got, boolean want) {
        Kit.due(what, got, want);
    }

    private static String wheel(String rules, int n, String spoke) {
        StringBuilder text = new StringBuilder(rules);
        for (int i = 0; i < n; i++) {
            text.append(text.length() > 0 ? ";" : "").append(spoke);
        }
        return text.toString();
    }

    private static void bear(String what, SpokeRing x, int bottom, int... want) {
        for (int i = 0; i < want.length; i++) {
            due(what + ": bears(" + i + ", " + bottom + ")", x.bears(i, bottom), want[i]);
        }
    }

    // ---- Terms 2: how it stands and what it bears ----

    private static void lastBesideFirst() {
        Kit.says("Terms 2", "the last one beside the first one; the next number (behind the last one 0), "
                + "the number ahead (ahead of 0 the last one)");
        for (int n = 3; n <= 8; n++) {
            SpokeRing x = Kit.ring(wheel("sl16", n, "k"));
            due("behind the last one 0, of " + n, x.bears(0, n - 1), 4);
            due("the last one itself, of " + n, x.bears(n - 1, n - 1), 8);
            due("ahead of the last one, of " + n, x.bears(n - 2, n - 1), 4);
            due("ahead of 0 the last one, of " + n, x.bears(n - 1, 0), 4);
            due("behind 0, of " + n, x.bears(1, 0), 4);
            due("0 itself, of " + n, x.bears(0, 0), 8);
            if (n > 3) {
                due("none further, of " + n, x.bears(2, 0), 0);
            }
        }
    }

    private static void bottomNotOn() {
        Kit.says("Terms 2", "One place is at the bottom: that of the SPOKE who is DOWN (0 at first; it may be OFF or BROKEN: "
                + "nobody is DOWN then, it is still its place)");
        SpokeRing x = Kit.ring("sl0;kv9o0;kv5o0;kv0o0");
        due("0 at first", x.count(15), 0);
        due("all on at first", x.all(4), 7);
        x.away(0);
        due("off, 0 still", x.count(15), 0);
        due("held with nobody down", x.hold(), 0);
        Kit.views("nobody's view counts", x, 9, 5, 0);
        due("0 still", x.count(15), 0);
        x.away(0);
        due("held with 0 down", x.hold(), 1);
        Kit.views("by 0", x, 9, 6, 1);
        x.away(1);
        due("a turn on to one that is off", x.turn(), 0);
        due("its place", x.count(15), 1);
        Kit.views("by nobody", x, 9, 6, 1);
        due("the log tells it, too", x.log(0, 1), 1);
        SpokeRing y = Kit.ring("sl8;kv9o0;ks1v9o0;kv0o0");
        due("1 breaks at the bottom", y.turn(), 0);
        due("broken", y.all(6), 2);
        due("still its place", y.count(15), 1);
        due("held there", y.hold(), 0);
        Kit.views("by nobody, broken", y, 9, 9, 0);
    }

    private static void halvesRoundedUp() {
        Kit.says("Terms 2", "of the LOAD half, rounded up, falls to that place; of the rest half, rounded up, to the place "
                + "of the next number, what is left to the place of the number ahead");
        int[][] parts = {{0, 0, 0, 0}, {1, 1, 0, 0}, {2, 1, 1, 0}, {3, 2, 1, 0}, {4, 2, 1, 1}, {5, 3, 1, 1},
            {6, 3, 2, 1}, {7, 4, 2, 1}, {8, 4, 2, 2}, {9, 5, 2, 2}, {10, 5, 3, 2}, {24, 12, 6, 6}, {25, 13, 6, 6},
            {26, 13, 7, 6}, {96, 48, 24, 24}, {97, 49, 24, 24}, {98, 49, 25, 24}, {99, 50, 25, 24}};
        for (int[] p : parts) {
            SpokeRing x = Kit.ring("sl" + p[0] + ";k;k;k;k");
            bear("load " + p[0], x, 0, p[1], p[2], 0, p[3]);
            bear("load " + p[0], x, 1, p[3], p[1], p[2], 0);
            bear("load " + p[0], x, 3, p[2], 0, p[3], p[1]);
        }
    }

    private static void fallsOn() {
        Kit.says("Terms 2", "what falls to a place whose SPOKE is not ON falls to the next place behind it, "
                + "the way of the numbers, whose SPOKE is ON");
        // 8, 4, 4
        SpokeRing x = Kit.ring("sl16c99;k;k;k;k;k");
        x.away(1);
        bear("1 off", x, 1, 4, 0, 12, 0, 0);
        bear("1 off", x, 0, 8, 0, 4, 0, 4);
        bear("1 off", x, 2, 0, 0, 12, 4, 0);
        x.away(2);
        bear("1, 2 off", x, 1, 4, 0, 0, 12, 0);
        bear("1, 2 off", x, 0, 8, 0, 0, 4, 4);
        bear("1, 2 off", x, 3, 0, 0, 0, 12, 4);
        x.away(4);
        // round behind the last one
        bear("1, 2, 4 off", x, 4, 12, 0, 0, 4, 0);
        bear("1, 2, 4 off", x, 0, 12, 0, 0, 4, 0);
        bear("1, 2, 4 off", x, 3, 4, 0, 0, 12, 0);
        x.away(3);
        for (int bottom = 0; bottom < 5; bottom++) {
            bear("0 alone", x, bottom, 16, 0, 0, 0, 0);
        }
        x.away(0);
        x.away(4);
        for (int bottom = 0; bottom < 5; bottom++) {
            bear("the last one alone", x, bottom, 0, 0, 0, 0, 16);
        }
        // broken ones as those that are off
        SpokeRing y = Kit.ring("sl16;k;ks7;k;k;k");
        y.turn();
        due("1 is broken", y.all(6), 2);
        bear("1 broken", y, 1, 4, 0, 12, 0, 0);
        bear("1 broken", y, 0, 8, 0, 4, 0, 4);
        y.away(2);
        bear("1 broken, 2 off", y, 1, 4, 0, 0, 12, 0);
    }

    private static void fallsToNobody() {
        Kit.says("Terms 2", "(there is none: to nobody)");
        SpokeRing x = Kit.ring("sl16;k;k;k");
        x.away(0);
        x.away(1);
        x.away(2);
        for (int bottom = 0; bottom < 3; bottom++) {
            bear("all off", x, bottom, 0, 0, 0);
        }
        due("a turn", x.turn(), 0);
        due("none breaks", x.all(6), 0);
        due("held", x.hold(), 0);
        due("none is about to", x.all(11), 0);
        due("none is tight", x.all(10), NONE);
        SpokeRing y = Kit.ring(wheel("sl99", 8, "ks1"));
        y.turn();
        for (int turn = 0; turn < 12; turn++) {
            y.turn();
        }
        due("all eight are broken", y.all(6), 255);
        for (int spoke = 0; spoke < 8; spoke++) {
            due("broken " + spoke, y.bears(spoke, spoke), 0);
        }
        due("turns go on", y.count(6), 13);
        due("round", y.count(15), 5);
    }

    // ---- Terms 2: (i) ----

    private static void moreThanStrength() {
        Kit.says("Terms 2", "(i) each SPOKE that is ON and BEARS more than its STRENGTH, the bottom as it is now, is BROKEN");
        // behind a turn place 1 is at the bottom: 0 bears 4, 1 bears 8, 2 bears 4
        due("just as much", broken("sl16;ks4;ks8;ks4", true), 0);
        due("one more at the bottom", broken("sl16;ks4;ks7;ks4;ks99", true), 2);
        due("one more behind", broken("sl16;ks4;ks8;ks3;ks99", true), 4);
        due("one more ahead", broken("sl16;ks3;ks8;ks4;ks99", true), 1);
        due("held: the bottom stays", broken("sl16;ks8;ks4;ks4", false), 0);
        due("held: one more at the bottom", broken("sl16;ks7;ks4;ks99;ks4", false), 1);
        due("held: one more behind", broken("sl16;ks8;ks3;ks99;ks4", false), 2);
        due("held: one more ahead", broken("sl16;ks8;ks4;ks99;ks3", false), 8);
        due("no load, strength 1", broken("sl0;ks1;ks1;ks1", true), 0);
        due("99 on 50", broken("sl99;ks24;ks50;ks25", true), 0);
        due("99 on 49", broken("sl99;ks24;ks49;ks25", true), 2);
        SpokeRing x = Kit.ring("sl16;ks99;ks1;ks99;ks99");
        x.away(1);
        x.turn();
        due("one that is off does not break", x.all(6), 0);
        due("it is off still", x.all(5), 2);
        x.away(1);
        x.hold();
        due("on again it does", x.all(6), 2);
        x.hold();
        due("it is broken once", x.log(0, 2), 0);
    }

    private static int broken(String wheel, boolean turned) {
        SpokeRing x = Kit.ring(wheel);
        if (turned) {
            x.turn();
        } else {
            x.hold();
        }
        return x.all(6);
    }

    private static void allAtOnce() {
        Kit.says("Terms 2", "(all at once, by what they BEAR as it began)");
        // were it one behind the other, what 1 bore would break 2, too
        SpokeRing x = Kit.ring("sl16;ks4;ks7;ks4;ks4");
        x.turn();
        due("only the one", x.all(6), 2);
        due("he bears too much now", x.spoke(2, 4), 12);
        due("in the next turn", x.all(11), 4);
        x.turn();
        // 1 was off by then: 2 bears 8, 3 bears 4 and 2 what falls to 1: 12
        due("the next one", x.all(6), 6);
        SpokeRing y = Kit.ring("sl16;ks3;ks7;ks3;ks99");
        y.turn();
        due("three at once", y.all(6), 7);
        due("three in the log", y.log(0, 2), 7);
        // by what he bore as it began 3 is not among them
        due("the last one bears it all", y.spoke(3, 4), 16);
        SpokeRing z = Kit.ring("sl16;ks3;ks7;ks3;ks1");
        z.turn();
        due("far from the bottom he stays", z.all(6), 7);
        z.turn();
        due("till it is on him", z.all(6), 15);
    }

    // ---- Terms 2: (ii) ----

    private static void onStill() {
        Kit.says("Terms 2", "(ii) is somebody DOWN (ON still)");
        SpokeRing x = Kit.ring("sl16;kv0o0;ks7v9o0;kv0o0");
        due("1 breaks as he comes down", x.turn(), 0);
        Kit.views("nobody goes by him", x, 0, 9, 0);
        SpokeRing y = Kit.ring("sl16;kv0o0;ks8v9o0;kv0o0");
        due("1 just holds", y.turn(), 1);
        Kit.views("they go by him", y, 1, 9, 1);
        SpokeRing law = Kit.ring("sl16;kv0o0;ks7v9o0;kv0o0", "y:7");
        law.turn();
        Kit.views("by no law, either", law, 0, 9, 0);
        law.turn();
        Kit.views("by the law, the next", law, 7, 9, 0);
        SpokeRing all = Kit.ring("sl16a1;kv9o0;ks7v0o0;kv9o0");
        due("all vote though nobody is down", all.turn(), 1);
    }

    private static void othersThatAreOn() {
        Kit.says("Terms 2", "each other SPOKE that is ON has a new VIEW");
        SpokeRing x = Kit.ring("sl16;kv0o0;kv9o0;ks3v0o0;kv0o0;kv0o0");
        x.away(4);
        x.turn();
        // 2 broke in it, 4 is off, 1 is down
        Kit.views("others that are on", x, 1, 9, 0, 1, 0);
        SpokeRing law = Kit.ring("sl16;kv0;kv9;ks3v0;kv0;kv0", "y:5");
        law.away(4);
        law.turn();
        Kit.views("by a law", law, 5, 9, 0, 5, 0);
    }

    private static void viewsAsTheyWere() {
        Kit.says("Terms 2", "(all by the VIEWS as they were)");
        SpokeRing x = Kit.ring("sl0;kv3;kv9;kv5;kv7", "y:d-v");
        x.turn();
        Kit.views("by 9", x, 6, 9, 4, 2);
        x.turn();
        Kit.views("by 4", x, 0, 0, 4, 2);
        x.turn();
        Kit.views("by 2", x, 2, 2, 0, 2);
    }

    private static void heldWithin() {
        Kit.says("Terms 2", "WORTH by the LAW that holds, held within 0 .. 9");
        int[][] rows = {{8, 8}, {9, 9}, {10, 9}, {11, 9}, {9999, 9}, {0, 0}, {1, 1}};
        for (int[] row : rows) {
            SpokeRing x = Kit.ring("sl0;k;k;k", "y:" + row[0]);
            x.turn();
            due("worth " + row[0], Kit.spoke(x, 0, 1), row[1]);
        }
        int[][] below = {{0, 0}, {1, 0}, {2, 0}, {9999, 0}};
        for (int[] row : below) {
            SpokeRing x = Kit.ring("sl0;k;k;k", "y:0-" + row[0]);
            x.turn();
            due("worth -" + row[0], Kit.spoke(x, 0, 1), row[1]);
        }
    }

    private static void obstinate() {
        Kit.says("Terms 2", "(none at first: one nearer to the VIEW of who is DOWN, if they are apart by more than he is "
                + "OBSTINATE; else as it is)");
        for (int o = 0; o <= 9; o++) {
            for (int v = 0; v <= 9; v++) {
                // up to a view of 9, down to a view of 0
                SpokeRing up = Kit.ring("sl0;kv" + v + "o" + o + ";kv9o9;kv9o9");
                up.turn();
                due("v" + v + "o" + o + " up", Kit.spoke(up, 0, 1), 9 - v > o ? v + 1 : v);
                SpokeRing down = Kit.ring("sl0;kv" + v + "o" + o + ";kv0o9;kv0o9");
                down.turn();
                due("v" + v + "o" + o + " down", Kit.spoke(down, 0, 1), v > o ? v - 1 : v);
            }
        }
        // how obstinate the one is who is down does not matter
        SpokeRing x = Kit.ring("sl0;kv4o0;kv5o9;kv6o1;kv7o2;kv3o1");
        x.turn();
        Kit.views("by 5", x, 5, 5, 6, 7, 4);
        Kit.says("Terms 2", "(none at first: ..), a LAW that holds, none again");
        SpokeRing y = Kit.ring("sl0;kv9o9;kv5o9;kv1o9", "y:3");
        y.law(NONE);
        y.turn();
        Kit.views("none holds", y, 9, 5, 1);
        y.law(0);
        y.turn();
        Kit.views("it holds", y, 3, 3, 1);
    }

    private static void shorterWay() {
        Kit.says("Terms 2", "h how many places he is from the bottom the shorter way");
        int[][] ways = {{1, 0, 1}, {1, 0, 1, 2}, {1, 0, 1, 2, 2}, {1, 0, 1, 2, 3, 2}, {1, 0, 1, 2, 3, 3, 2},
            {1, 0, 1, 2, 3, 4, 3, 2}};
        for (int[] way : ways) {
            SpokeRing x = Kit.ring(wheel("sl0", way.length, "kv9"), "y:h");
            x.turn();
            for (int i = 0; i < way.length; i++) {
                due(i + " of " + way.length, Kit.spoke(x, i, 1), i == 1 ? 9 : way[i]);
            }
        }
        SpokeRing last = Kit.ring(wheel("sl0", 8, "kv9"), "y:h");
        for (int i = 0; i < 7; i++) {
            last.turn();
        }
        due("0 from the last one", Kit.spoke(last, 0, 1), 1);
        due("3 from the last one", Kit.spoke(last, 3, 1), 4);
        due("6 from the last one", Kit.spoke(last, 6, 1), 1);
        SpokeRing first = Kit.ring(wheel("sl0", 8, "kv9"), "y:h");
        first.hold();
        due("7 from 0", Kit.spoke(first, 7, 1), 1);
        due("5 from 0", Kit.spoke(first, 5, 1), 3);
        due("4 from 0", Kit.spoke(first, 4, 1), 4);
    }

    private static void turnModulo100() {
        Kit.says("Terms 2", "t the TURN modulo 100");
        for (int hundred = 1; hundred <= 9; hundred++) {
            SpokeRing x = Kit.late("sl0;kv0o9;kv0o9;kv0o9", 100 * hundred - 2);
            Kit.tell(x, 1, "y:t=98?1;y:t=99?2;y:t=0?3;y:t=1?4;y:9");
            x.law(0);
            for (int i = 0; i < 4; i++) {
                x.turn();
                int other = x.count(15) == 0 ? 1 : 0;
                due("turn " + (100 * hundred - 2 + i), Kit.spoke(x, other, 1), i + 1);
            }
        }
        SpokeRing at = Kit.ring("sl0;k;k;k", "y:t");
        at.turn();
        due("0 at first", Kit.spoke(at, 0, 1), 0);
        at.turn();
        due("1 then", Kit.spoke(at, 0, 1), 1);
    }

    // ---- Terms 2: (iii) ----

    private static void moreThanLess() {
        Kit.says("Terms 2", "(iii) DONE: does ALL vote, whether more SPOKES that are ON have a VIEW of 5 or more than have less");
        due("3 to 0", Kit.ring("sl0a1;kv5o9;kv5o9;kv5o9").turn(), 1);
        due("2 to 1", Kit.ring("sl0a1;kv5o9;kv4o9;kv5o9").turn(), 1);
        due("1 to 2", Kit.ring("sl0a1;kv4o9;kv9o9;kv4o9").turn(), 0);
        due("0 to 3", Kit.ring("sl0a1;kv4o9;kv4o9;kv4o9").turn(), 0);
        due("2 to 2", Kit.ring("sl0a1;kv5o9;kv5o9;kv4o9;kv4o9").turn(), 0);
        due("3 to 1", Kit.ring("sl0a1;kv5o9;kv5o9;kv5o9;kv4o9").turn(), 1);
        due("4 to 4", Kit.ring("sl0a1;kv9o9;kv9o9;kv9o9;kv9o9;kv4o9;kv4o9;kv4o9;kv4o9").turn(), 0);
        due("5 to 3", Kit.ring("sl0a1;kv5o9;kv5o9;kv5o9;kv5o9;kv5o9;kv4o9;kv4o9;kv4o9").turn(), 1);
        // by the views as they are behind (ii)
        due("two come to 5", Kit.ring("sl0a1;kv4o0;kv5o9;kv0o9").turn(), 1);
        due("one comes to 4", Kit.ring("sl0a1;kv5o0;kv4o9;kv9o9").turn(), 0);
        SpokeRing off = Kit.ring("sl0a1;kv9o9;kv9o9;kv0o9;kv0o9");
        off.away(3);
        due("2 to 1, one is off", off.turn(), 1);
        off.away(1);
        due("1 to 1, two are off", off.turn(), 0);
        off.away(0);
        due("0 to 1", off.turn(), 0);
        off.away(2);
        due("0 to 0: none is on", off.turn(), 0);
        SpokeRing breaks = Kit.ring("sl16a1;kv9o9;ks7v0o9;kv9o9;kv0o9");
        due("2 to 1, one broke in it", breaks.turn(), 1);
    }

    private static void fiveOrMore() {
        Kit.says("Terms 2", "else whether who is DOWN (ON) has a VIEW of 5 or more (nobody: it is not DONE)");
        for (int v = 0; v <= 9; v++) {
            due("a view of " + v, Kit.ring("sl0;kv9o9;kv" + v + "o9;kv0o9").turn(), v >= 5 ? 1 : 0);
            due("held, a view of " + v, Kit.ring("sl0;kv" + v + "o9;kv9o9;kv0o9").hold(), v >= 5 ? 1 : 0);
        }
        SpokeRing off = Kit.ring("sl0;kv9o9;kv9o9;kv9o9");
        off.away(1);
        due("he is off", off.turn(), 0);
        due("nothing is got by it", off.count(7), 18);
        due("not done", off.count(10), 0);
        due("by the next", off.turn(), 1);
        due("he breaks in it", Kit.ring("sl16;kv9o9;ks7v9o9;kv9o9").turn(), 0);
    }

    // ---- Terms 2: the turn, the log ----

    private static void bottomGoesRound() {
        Kit.says("Terms 2", "A TURN first moves the bottom to the next number (behind the last one 0)");
        for (int n = 3; n <= 8; n++) {
            SpokeRing x = Kit.ring(wheel("sl0", n, "k"));
            for (int i = 1; i <= 2 * n; i++) {
                x.turn();
                due("turn " + i + " of " + n, x.count(15), i % n);
            }
            x.hold();
            due("held", x.count(15), 0);
        }
        // first: what breaks breaks by the place it has moved to
        SpokeRing y = Kit.ring("sl16;ks7;k;k;k");
        for (int i = 0; i < 3; i++) {
            y.turn();
            due("not yet " + i, y.all(6), 0);
        }
        y.turn();
        due("as 0 is at the bottom", y.all(6), 1);
    }

    private static void latestSixty() {
        Kit.says("Terms 2", "The LOG: .. (the latest 60)");
        SpokeRing x = Kit.ring(wheel("sl0", 7, "kv9o9"));
        x.slip(0);
        for (int i = 1; i <= 59; i++) {
            x.turn();
        }
        due("59", x.count(13), 59);
        due("the first of 59", x.log(58, 1), 1);
        due("no older", x.log(59, 1), NONE);
        x.turn();
        due("60", x.count(13), 60);
        due("the first of 60", x.log(59, 1), 1);
        x.turn();
        due("60 still", x.count(13), 60);
        due("the first is gone", x.log(59, 1), 2);
        due("no older than 60", x.log(60, 1), NONE);
        for (int i = 0; i < 60; i++) {
            due("log(" + i + ")", x.log(i, 1), (61 - i) % 7);
        }
        SpokeRing far = Kit.late(wheel("sl0", 7, "kv9o9"), 999);
        due("60 of 999", far.count(13), 60);
        for (int i = 0; i < 60; i++) {
            due("log(" + i + ") of 999", far.log(i, 1), (999 - i) % 7);
            due("done(" + i + ") of 999", far.log(i, 0), 1);
        }
    }

    private static void brokenInIt() {
        Kit.says("Terms 2", "The LOG: whether it was DONE (1, 0), the place at the bottom, SPOKES (bits) BROKEN in it");
        SpokeRing x = Kit.ring("sl16;kv9o9;ks7v9o9;ks11v9o9;kv0o9");
        x.turn();
        x.turn();
        x.turn();
        x.turn();
        x.hold();
        int[][] rows = {{1, 0, 0}, {1, 0, 0}, {0, 3, 0}, {0, 2, 4}, {0, 1, 2}};
        for (int i = 0; i < rows.length; i++) {
            for (int what = 0; what < 3; what++) {
                due("log(" + i + ", " + what + ")", x.log(i, what), rows[i][what]);
            }
        }
        SpokeRing all = Kit.ring(wheel("sl99", 8, "ks1"));
        all.hold();
        due("0, 1 and the last one", all.log(0, 2), 131);
    }

    private static SpokeRing rich(int coins) {
        SpokeRing x = Kit.ring("sl0c99;kv9o9;kv9o9;kv0o9");
        for (int left = coins - 99; left > 0; left -= 50) {
            x.give(Math.min(50, left));
        }
        due("so many coins", x.count(7), coins);
        return x;
    }

    private static void coinsAtMost() {
        Kit.says("Terms 2", "DONE in all is one more with it; COINS one more, if it is DONE (999 at most)");
        SpokeRing x = rich(998);
        due("done", x.turn(), 1);
        due("999", x.count(7), 999);
        due("not done", x.turn(), 0);
        due("999 as it was", x.count(7), 999);
        due("done again", x.turn(), 1);
        due("999 at most", x.count(7), 999);
        due("done in all goes on", x.count(10), 2);
        due("one is paid, one is got", x.hold(), 1);
        due("999 behind it", x.count(7), 999);
        x.turn();
        x.turn();
        due("not done, a coin is paid", x.hold(), 0);
        due("998", x.count(7), 998);
        x.slip(0);
        x.years(30, 1);
        due("years, too", x.count(7), 999);
        Kit.says("Terms 2", "it is HELD (a COIN); COINS one more, if it is DONE");
        SpokeRing one = Kit.ring("sl0c1;kv9o9;kv0o9;k");
        due("with a coin", one.hold(), 1);
        due("it came back", one.count(7), 1);
        due("again", one.hold(), 1);
        one.turn();
        due("for nothing", one.hold(), 0);
        due("none is left", one.count(7), 0);
        due("none to hold it", one.hold(), NONE);
    }

    private static void turnsAtMost() {
        Kit.says("Terms 2", "the TURN (0 at first; 999 at most: none goes by then; HELD, too) is one later");
        SpokeRing x = Kit.late("sl0;kv9o9;kv0o9;k", 997);
        due("997 and one", x.turn(), 0);
        due("998", x.count(6), 998);
        due("998 and one held", x.hold(), 0);
        due("999", x.count(6), 999);
        Kit.refused("a turn at 999", x, () -> x.turn(), NONE);
        Kit.refused("held at 999", x, () -> x.hold(), NONE);
        Kit.refused("a year at 999", x, () -> x.years(1, 1), NONE);
        due("else acts can be: away", x.away(0), 0);
        due("vote", x.vote(true), true);
        due("undone", x.undo(), 39);
        x.undo();
        due("undone again", x.undo(), 37);
        due("998 again", x.count(6), 998);
        due("the last turn", x.turn(), 1);
        due("999 again", x.count(6), 999);
        SpokeRing y = Kit.ring("sl0;k;k;k");
        due("0 at first", y.count(6), 0);
        y.hold();
        due("held counts, too", y.count(6), 1);
    }

    // ---- Terms 2: by hand ----

    private static SpokeRing coins(int coins) {
        return Kit.ring("sl16c" + coins + ";ks7v0o9;kv0o9;kv0o9");
    }

    private static SpokeRing oneBroken(int coins) {
        SpokeRing x = Kit.ring("sl16c0;kv0o9;ks7v0o9;kv0o9");
        x.turn();
        due("one is broken", x.all(6), 2);
        if (coins > 0) {
            x.give(coins);
        }
        return x;
    }

    private static void byHandCosts() {
        Kit.says("Terms 2", "By hand: a TURN; it is HELD (a COIN); a SPOKE gets OFF, or ON again (not a BROKEN one; 2 COINS); "
                + "a BROKEN one is MENDED: it is ON (4 COINS)");
        SpokeRing none = coins(0);
        due("a turn for nothing", none.turn(), 0);
        Kit.refused("held without a coin", none, () -> none.hold(), NONE);
        Kit.refused("off without coins", none, () -> none.away(0), NONE);
        due("all vote for nothing", none.vote(true), true);
        due("wet for nothing", none.wet(0), 3);
        due("no coins still", none.count(7), 0);
        SpokeRing one = coins(1);
        Kit.refused("off with one coin", one, () -> one.away(0), NONE);
        due("held with one coin", one.hold(), 0);
        due("none left", one.count(7), 0);
        SpokeRing two = coins(2);
        due("off with two coins", two.away(2), 0);
        due("none left of two", two.count(7), 0);
        Kit.refused("on again without", two, () -> two.away(2), NONE);
        two.give(1);
        Kit.refused("on again with one", two, () -> two.away(2), NONE);
        two.give(1);
        due("on again with two", two.away(2), 1);
        due("none left again", two.count(7), 0);
        for (int c = 0; c <= 3; c++) {
            SpokeRing poor = oneBroken(c);
            Kit.refused("mended with " + c, poor, () -> poor.mend(1), NONE);
        }
        SpokeRing four = oneBroken(4);
        due("mended with four", four.mend(1), 3);
        due("none left of four", four.count(7), 0);
        due("it is on", four.all(4), 7);
        SpokeRing rich = oneBroken(50);
        Kit.refused("a broken one does not get off", rich, () -> rich.away(1), NONE);
        Kit.refused("one that is on is not mended", rich, () -> rich.mend(0), NONE);
        rich.away(0);
        Kit.refused("one that is off is not mended", rich, () -> rich.mend(0), NONE);
        due("mended, one is off", rich.mend(1), 2);
        due("the coins", rich.count(7), 44);
    }

    private static void actsUndone() {
        Kit.says("Terms 2", "All these are ACTS: the latest 40 can be UNDONE one by one (LOG, too)");
        for (int acts = 39; acts <= 42; acts++) {
            SpokeRing x = Kit.ring("sl0;kv9o9;k;k");
            for (int i = 0; i < acts; i++) {
                x.turn();
            }
            int can = Math.min(40, acts);
            due("of " + acts, x.count(14), can);
            for (int i = 1; i <= can; i++) {
                due("undone " + i + " of " + acts, x.undo(), can - i);
                due("turn behind " + i + " of " + acts, x.count(6), acts - i);
                due("log behind " + i + " of " + acts, x.count(13), acts - i);
            }
            Kit.refused("no more of " + acts, x, () -> x.undo(), NONE);
            due("turn", x.count(6), acts - can);
            x.turn();
            due("one again", x.count(14), 1);
        }
        SpokeRing y = Kit.ring("sl16w1c50;kv9o9;ks7v0o0;kv0o9");
        y.hold();
        y.away(2);
        y.away(2);
        y.turn();
        y.mend(1);
        y.vote(true);
        y.vote(false);
        y.wet(7);
        y.give(50);
        int[] kinds = {9, 8, 7, 6, 5, 4, 3, 2, 1};
        due("nine acts", y.count(14), 9);
        String[] states = new String[9];
        SpokeRing z = Kit.ring("sl16w1c50;kv9o9;ks7v0o0;kv0o9");
        for (int i = 0; i < 9; i++) {
            states[i] = actless(z);
            act(z, i);
        }
        for (int i = 8; i >= 0; i--) {
            due("undone", y.undo(), kinds[8 - i] - 1);
            due("as ahead of act " + i, actless(y).equals(states[i]), true);
        }
    }

    private static String actless(SpokeRing x) {
        StringBuilder told = new StringBuilder();
        for (int what = 6; what <= 15; what++) {
            told.append(what == 14 ? 0 : x.count(what)).append(' ');
        }
        for (int i = 0; i < 3; i++) {
            told.append(Kit.spoke(x, i, 1)).append(Kit.spoke(x, i, 3)).append(' ');
        }
        return told.append(x.log(0, 0)).append(x.log(0, 1)).append(x.log(0, 2)).toString();
    }

    private static void act(SpokeRing x, int i) {
        int[] answers = {1, 0, 1, 0, 3, 1, 1, 1, 99};
        int got;
        switch (i) {
            case 0: got = x.hold(); break;
            case 1: got = x.away(2); break;
            case 2: got = x.away(2); break;
            case 3: got = x.turn(); break;
            case 4: got = x.mend(1); break;
            case 5: got = x.vote(true) ? 1 : 0; break;
            case 6: got = x.vote(false) ? 1 : 0; break;
            case 7: got = x.wet(7); break;
            default: got = x.give(50); break;
        }
        int want = i == 8 ? x.count(7) : answers[i];
        due("act " + i, got, want);
    }

    private static void notActs() {
        Kit.says("Terms 2", "All these are ACTS (what does not stand there is none)");
        SpokeRing x = Kit.ring("k;k;k");
        x.turn();
        Kit.tell(x, 1, "y:1");
        Kit.tell(x, 2, "t");
        x.law(0);
        x.slip(5);
        x.seen(1, true);
        x.image();
        due("one act", x.count(14), 1);
        due("it is undone", x.undo(), 0);
        due("laws stay", x.count(2), 1);
        due("journeys stay", x.count(3), 1);
        due("the law stays", x.count(5), 0);
        due("slip stays", x.count(11), 5);
        due("what was seen stays", x.count(12), 1);
        due("the image stays", x.back(), 1);
    }

    // ---- Terms 4 ----

    private static final BigInteger ROUND = BigInteger.ONE.shiftLeft(64);

    private static BigInteger step(BigInteger x) {
        return x.multiply(new BigInteger("6364136223846793005")).add(new BigInteger("1442695040888963407")).mod(ROUND);
    }

    private static int draw(BigInteger x, int j) {
        return x.shiftRight(33).mod(BigInteger.valueOf(j)).intValue();
    }

    /** The same years by hand on a wheel with coins enough; what each told differs in coins alone. */
    private static void byHand(SpokeRing y, int n, long seed, int spokes, int slip) {
        BigInteger x = BigInteger.valueOf(seed).mod(ROUND);
        for (int i = 0; i < n; i++) {
            if (y.count(7) < 100) {
                y.give(50);
            }
            x = step(x);
            y.mend(draw(x, spokes));
            x = step(x);
            y.wet(draw(x, 10));
            x = step(x);
            if (draw(x, 10) < slip) {
                y.hold();
            } else {
                y.turn();
            }
        }
    }

    private static void yearsDraws() {
        Kit.says("Terms 4", "x, at first the seed, becomes x times 6364136223846793005 and 1442695040888963407 (64 bits, "
                + "going round); a draw of j: (x shifted right by 33, without sign) modulo j");
        long[] seeds = {0, 1, -1, 2, 42, 123456789L, Long.MAX_VALUE, Long.MIN_VALUE, -6364136223846793005L, 1L << 33, 1L << 62};
        for (int spokes = 3; spokes <= 8; spokes++) {
            for (long seed : seeds) {
                String wheel = wheel("sl24w0", spokes, "ks12v6o1");
                SpokeRing x = Kit.ring(wheel, "y:w+h");
                SpokeRing y = Kit.ring(wheel, "y:w+h");
                due("years", x.years(9, seed), 9);
                byHand(y, 9, seed, spokes, 3);
                String what = spokes + " spokes, seed " + seed;
                for (int count : new int[] {6, 8, 9, 10, 13, 15}) {
                    due(what + ": count(" + count + ")", x.count(count), y.count(count));
                }
                for (int all = 4; all <= 7; all++) {
                    due(what + ": all(" + all + ")", x.all(all), y.all(all));
                }
                for (int i = 0; i < spokes; i++) {
                    due(what + ": view " + i, Kit.spoke(x, i, 1), Kit.spoke(y, i, 1));
                }
                for (int i = 0; i < 9; i++) {
                    due(what + ": log " + i, x.log(i, 1) * 512 + x.log(i, 2), y.log(i, 1) * 512 + y.log(i, 2));
                }
            }
        }
    }

    private static void yearsMend() {
        Kit.says("Terms 4", "a draw of how many SPOKES there are: is it BROKEN, it is MENDED");
        int ofOff = 0;
        for (int seed = 0; seed < 40; seed++) {
            SpokeRing x = Kit.ring("sl16c99;k;ks7;k;k");
            x.turn();
            x.away(0);
            due("one broken, one off", x.all(6) * 8 + x.all(5), 17);
            ofOff += draw(step(BigInteger.valueOf(seed)), 4) == 0 ? 1 : 0;
            x.years(1, seed);
            due("the one that is off stays off", x.all(5), 1);
        }
        due("some draws are of the one that is off", ofOff > 0, true);
        // far from the weight it stays on
        boolean stays = false;
        for (int seed = 0; seed < 40; seed++) {
            SpokeRing x = Kit.ring("sl16;ks7;k;k;k;k");
            x.hold();
            x.turn();
            x.turn();
            due("0 is broken, the bottom is far", x.all(6), 1);
            boolean again = draw(step(BigInteger.valueOf(seed)), 5) == 0;
            x.slip(9);
            int coins = x.count(7);
            x.years(1, seed);
            due("seed " + seed, x.all(6), again ? 0 : 1);
            due("for nothing", x.count(7), coins + x.log(0, 0));
            x.undo();
            due("broken again", x.all(6), 1);
            due("as many coins again", x.count(7), coins);
            SpokeRing poor = Kit.ring("sl16c1;ks7v0o9;kv0o9;kv0o9;kv0o9;kv0o9");
            poor.hold();
            poor.turn();
            poor.turn();
            due("0 is broken, no coin is left", poor.all(6) * 10 + poor.count(7), 10);
            poor.years(1, seed);
            due("without coins, seed " + seed, poor.all(6), again ? 0 : 1);
            stays = stays || again;
        }
        due("one is mended", stays, true);
    }

    private static void yearsBelowSlip() {
        Kit.says("Terms 4", "then a draw of 10 below SLIP (0 .. 9; 3 at first): it is HELD, else a TURN");
        boolean[] drawnSo = new boolean[10];
        for (int seed = 0; seed < 60; seed++) {
            int drawn = draw(step(step(step(BigInteger.valueOf(seed)))), 10);
            drawnSo[drawn] = true;
            SpokeRing usual = Kit.ring("sl0;k;k;k");
            usual.years(1, seed);
            due("3 at first, drawn " + drawn, usual.count(15), drawn < 3 ? 0 : 1);
            for (int slip = 0; slip <= 9; slip += seed < 20 ? 1 : 3) {
                SpokeRing x = Kit.ring("sl0;k;k;k");
                x.slip(slip);
                x.years(1, seed);
                due("slip " + slip + ", drawn " + drawn, x.count(15), drawn < slip ? 0 : 1);
            }
        }
        for (int drawn = 0; drawn < 10; drawn++) {
            due("a draw of " + drawn, drawnSo[drawn], true);
        }
        Kit.says("Terms 4", "then a draw of 10: how WET");
        for (int seed = 0; seed < 30; seed++) {
            SpokeRing x = Kit.ring("sl0;k;k;k", "y:w");
            int wet = draw(step(step(BigInteger.valueOf(seed))), 10);
            x.years(1, seed);
            due("wet", x.count(8), wet);
            due("ahead of it", Kit.spoke(x, 2, 1), wet);
        }
    }

    private static void yearsForNothing() {
        Kit.says("Terms 4", "(all for nothing)");
        SpokeRing x = Kit.ring("sl16c0;ks7v0o9;k;kv0o9");
        x.slip(9);
        due("held without coins", x.years(30, 5), 30);
        due("as many coins as it was done", x.count(7), x.count(10));
        SpokeRing y = Kit.ring("sl16c50;kv0o9;kv0o9;kv0o9");
        y.slip(9);
        y.years(30, 5);
        due("never done: all coins are left", y.count(7), 50);
        // held without a coin, mended without coins and for none
        for (int coins = 0; coins <= 5; coins++) {
            for (int seed = 0; seed < 20; seed++) {
                SpokeRing z = Kit.ring("sl16c" + coins + ";ks7v0o9;kv0o9;kv0o9;kv0o9;kv0o9;kv0o9");
                z.slip(5);
                z.years(6, 1000 + seed);
                z.years(6, seed);
                BigInteger x1 = BigInteger.valueOf(1000 + seed);
                BigInteger x2 = BigInteger.valueOf(seed);
                int turns = 0;
                for (int i = 0; i < 6; i++) {
                    x1 = step(step(step(x1)));
                    x2 = step(step(step(x2)));
                    turns += (draw(x1, 10) < 5 ? 0 : 1) + (draw(x2, 10) < 5 ? 0 : 1);
                }
                due("held without coins", z.count(15), turns % 6);
                due("no coins are paid", z.count(7), coins);
            }
        }
    }

    private static void yearsAreActs() {
        Kit.says("Terms 4", "Each of these with what is ahead of it is one ACT");
        SpokeRing x = Kit.ring("sl16w5;ks7;k;k;k");
        String[] states = new String[31];
        BigInteger seed = BigInteger.valueOf(99);
        SpokeRing y = Kit.ring("sl16w5;ks7;k;k;k");
        for (int i = 0; i < 30; i++) {
            states[i] = actless(y);
            y.years(1, seed.longValue());
            seed = step(step(step(seed)));
        }
        x.years(30, 99);
        due("thirty acts", x.count(14), 30);
        due("as year by year", actless(x).equals(actless(y)), true);
        for (int i = 29; i >= 0; i--) {
            due("undone", x.undo(), i);
            due("as ahead of year " + i, actless(x).equals(states[i]), true);
        }
    }

    private static void imageKeeps() {
        Kit.says("Terms 4", "An IMAGE keeps how SPOKES are, VIEWS, the bottom, how WET, whether ALL vote, DONE in all, COINS, "
                + "the TURN, the LOG; BACK: they are so again (no ACT can be UNDONE then)");
        SpokeRing x = Kit.ring("sl16w4c40;kv9o0;ks7v9o0;kv0o0");
        Kit.tell(x, 1, "y:9-v");
        x.turn();
        x.away(0);
        x.turn();
        String before = actless(x);
        due("image", x.image(), 2);
        x.turn();
        x.mend(1);
        x.away(0);
        x.wet(9);
        x.vote(true);
        x.give(33);
        x.hold();
        x.hold();
        due("something else", before.equals(actless(x)), false);
        due("back", x.back(), 2);
        due("as it was", before, actless(x));
        due("none can be undone", x.count(14), 0);
        Kit.refused("none is undone", x, () -> x.undo(), NONE);
        x.turn();
        due("an act behind it can", x.undo(), 0);
        due("as it was again", before, actless(x));
        x.years(30, 3);
        x.years(30, 4);
        x.years(30, 5);
        due("back over sixty in the log", x.back(), 2);
        due("as it was over sixty", before, actless(x));
        due("two in the log", x.log(1, 1), 1);
        due("no third", x.log(2, 1), NONE);
        x.law(0);
        x.slip(8);
        x.seen(3, false);
        Kit.tell(x, 2, "t");
        Kit.type(x, "abc");
        x.back();
        due("the law is no part of it", x.count(5), 0);
        due("nor slip", x.count(11), 8);
        due("nor what was seen", x.count(12), 1);
        due("nor journeys", x.count(3), 1);
        due("nor the tape", x.count(4), 3);
    }

    private static void due(String what, String got, String want) {
        due(what + " (" + got + " for " + want + ")", got.equals(want), true);
    }

    // ---- promises ----

    private static void p06Spoke() {
        Kit.says("Promise 6", "3 whether ON (0), OFF (1), BROKEN (2), 4 what it BEARS as the bottom is (not ON: 0), as now");
        SpokeRing x = Kit.ring("sl16;k;ks7;k;k");
        for (int i = 0; i < 4; i++) {
            due("on", Kit.spoke(x, i, 3), 0);
            due("bears " + i, Kit.spoke(x, i, 4), new int[] {8, 4, 0, 4}[i]);
        }
        x.turn();
        x.away(3);
        int[] how = {0, 2, 0, 1};
        int[] bears = {4, 0, 12, 0};
        for (int i = 0; i < 4; i++) {
            due("how " + i, Kit.spoke(x, i, 3), how[i]);
            due("bears now " + i, Kit.spoke(x, i, 4), bears[i]);
        }
        x.mend(1);
        x.away(3);
        due("mended", Kit.spoke(x, 1, 3), 0);
        due("mended, bears", Kit.spoke(x, 1, 4), 8);
        due("on again", Kit.spoke(x, 3, 3), 0);
    }

    private static void p06NoSuch() {
        Kit.says("Promise 6", "NoSuchElementException: no such ones");
        for (int n = 3; n <= 8; n++) {
            SpokeRing x = Kit.ring(wheel("", n, "k"));
            due("the last one", Kit.spoke(x, n - 1, 0), 30);
            for (int what = 0; what <= 4; what++) {
                int asked = what;
                int above = n;
                Kit.refused("spoke " + n + " of " + n, x, () -> Kit.spoke(x, above, asked), NO_ELEMENT);
                Kit.refused("spoke -1", x, () -> Kit.spoke(x, -1, asked), NO_ELEMENT);
            }
        }
        SpokeRing x = Kit.ring("k;k;k");
        int[] odd = {-1, 5, Integer.MAX_VALUE, Integer.MIN_VALUE};
        for (int what : odd) {
            Kit.refused("what " + what, x, () -> Kit.spoke(x, 0, what), NO_ELEMENT);
        }
        Kit.refused("far above", x, () -> Kit.spoke(x, Integer.MAX_VALUE, 0), NO_ELEMENT);
        Kit.refused("far below", x, () -> Kit.spoke(x, Integer.MIN_VALUE, 0), NO_ELEMENT);
        // as many as the wheel that is, not one that was
        SpokeRing y = Kit.ring("k;k;k;k;k");
        Kit.tell(y, 0, "k;k;k");
        Kit.refused("of an earlier wheel", y, () -> Kit.spoke(y, 3, 0), NO_ELEMENT);
    }

    private static void p08Slip() {
        Kit.says("Promise 8", "SLIP (0 .. 9). False: out of bounds, it is so");
        SpokeRing x = Kit.ring("k;k;k");
        due("3 at first", x.count(11), 3);
        Kit.refused("3 is so", x, () -> x.slip(3));
        Kit.refused("-1", x, () -> x.slip(-1));
        Kit.refused("10", x, () -> x.slip(10));
        Kit.refused("far above", x, () -> x.slip(Integer.MAX_VALUE));
        Kit.refused("far below", x, () -> x.slip(Integer.MIN_VALUE));
        for (int v : new int[] {0, 9, 8, 1, 3}) {
            due("slip " + v, x.slip(v), true);
            due("it is " + v, x.count(11), v);
            Kit.refused(v + " is so", x, () -> x.slip(v));
        }
    }

    private static void p09None() {
        Kit.says("Promise 9", "A TURN: whether it was DONE (1, 0). NONE: no WHEEL, beyond 999");
        SpokeRing none = new SpokeRing();
        Kit.refused("no wheel", none, () -> none.turn(), NONE);
        SpokeRing x = Kit.late("sl0;k;k;kv0o9", 998);
        due("999", x.turn(), 0);
        Kit.refused("beyond", x, () -> x.turn(), NONE);
        SpokeRing y = Kit.late("sl0;k;k;kv9o9", 998);
        due("done", y.turn(), 1);
        Kit.refused("beyond, done", y, () -> y.turn(), NONE);
    }

    private static void p10None() {
        Kit.says("Promise 10", "HELD: whether it was DONE (1, 0). NONE: no WHEEL, beyond 999, no COIN");
        SpokeRing none = new SpokeRing();
        Kit.refused("no wheel", none, () -> none.hold(), NONE);
        SpokeRing x = Kit.late("sl0;k;k;kv0o9", 998);
        due("999", x.hold(), 0);
        Kit.refused("beyond", x, () -> x.hold(), NONE);
        SpokeRing poor = Kit.ring("sl0c0;kv0o9;kv9o9;k");
        Kit.refused("no coin", poor, () -> poor.hold(), NONE);
        due("one is got", poor.turn(), 1);
        due("with that one", poor.hold(), 1);
        due("and one is got", poor.count(7), 1);
    }

    private static void p11None() {
        Kit.says("Promise 11", "OFF, ON again: whether it is ON then (1, 0). NONE: no such SPOKE, BROKEN, too few COINS");
        SpokeRing none = new SpokeRing();
        Kit.refused("no wheel", none, () -> none.away(0), NONE);
        SpokeRing x = Kit.ring("sl16;k;ks7;k;k");
        x.turn();
        Kit.refused("4 of four", x, () -> x.away(4), NONE);
        Kit.refused("-1", x, () -> x.away(-1), NONE);
        Kit.refused("far above", x, () -> x.away(Integer.MAX_VALUE), NONE);
        Kit.refused("far below", x, () -> x.away(Integer.MIN_VALUE), NONE);
        Kit.refused("32", x, () -> x.away(32), NONE);
        Kit.refused("broken", x, () -> x.away(1), NONE);
        due("off", x.away(3), 0);
        due("on again", x.away(3), 1);
        due("0 off", x.away(0), 0);
        due("coins", x.count(7), 14);
        SpokeRing one = coins(1);
        Kit.refused("one coin", one, () -> one.away(0), NONE);
        SpokeRing poor = coins(0);
        Kit.refused("no coin", poor, () -> poor.away(0), NONE);
        due("two coins", coins(2).away(0), 0);
        SpokeRing last = Kit.ring("sl0;k;k;k");
        last.away(0);
        last.away(1);
        due("the last one that is on may get off, too", last.away(2), 0);
        due("nobody is on", last.all(4), 0);
    }

    private static void p12None() {
        Kit.says("Promise 12", "MENDED: how many are ON then. NONE: no such SPOKE, not BROKEN, too few COINS");
        SpokeRing none = new SpokeRing();
        Kit.refused("no wheel", none, () -> none.mend(0), NONE);
        SpokeRing x = oneBroken(50);
        for (int spoke : new int[] {-1, 3, 33, Integer.MAX_VALUE, Integer.MIN_VALUE}) {
            Kit.refused("no such spoke " + spoke, x, () -> x.mend(spoke), NONE);
        }
        Kit.refused("on", x, () -> x.mend(0), NONE);
        x.away(2);
        Kit.refused("off", x, () -> x.mend(2), NONE);
        due("how many are on", x.mend(1), 2);
        Kit.refused("mended already", x, () -> x.mend(1), NONE);
        SpokeRing three = oneBroken(3);
        Kit.refused("three coins", three, () -> three.mend(1), NONE);
        SpokeRing all = Kit.ring(wheel("sl99c99", 3, "ks1"));
        all.turn();
        due("all broken", all.all(6), 7);
        due("one", all.mend(2), 1);
        due("two", all.mend(0), 2);
        due("three", all.mend(1), 3);
        due("coins", all.count(7), 87);
    }

    private static void p13False() {
        Kit.says("Promise 13", "ALL vote, or not. False: no WHEEL, it is so");
        SpokeRing none = new SpokeRing();
        Kit.refused("no wheel", none, () -> none.vote(true));
        Kit.refused("no wheel, not", none, () -> none.vote(false));
        SpokeRing x = Kit.ring("k;k;k");
        Kit.refused("not, as it is", x, () -> x.vote(false));
        due("all", x.vote(true), true);
        Kit.refused("all, as it is", x, () -> x.vote(true));
        due("not", x.vote(false), true);
        due("two acts", x.count(14), 2);
        SpokeRing y = Kit.ring("sa1;k;k;k");
        Kit.refused("all, as told", y, () -> y.vote(true));
        due("not any more", y.vote(false), true);
    }

    private static void p14None() {
        Kit.says("Promise 14", "How WET: how it was. NONE: no WHEEL, out of bounds, it is so; Terms 2: (0 .. 9)");
        SpokeRing none = new SpokeRing();
        Kit.refused("no wheel", none, () -> none.wet(5), NONE);
        SpokeRing x = Kit.ring("k;k;k");
        for (int v : new int[] {-1, 10, 3, Integer.MAX_VALUE, Integer.MIN_VALUE}) {
            Kit.refused("wet " + v, x, () -> x.wet(v), NONE);
        }
        due("0", x.wet(0), 3);
        Kit.refused("0 as it is", x, () -> x.wet(0), NONE);
        due("9", x.wet(9), 0);
        Kit.refused("9 as it is", x, () -> x.wet(9), NONE);
        due("8", x.wet(8), 9);
        due("three acts", x.count(14), 3);
    }

    private static void p15None() {
        Kit.says("Promise 15", "COINS are given: COINS then. NONE: no WHEEL, out of bounds, above 999; Terms 2: (1 .. 50; 999 at most)");
        SpokeRing none = new SpokeRing();
        Kit.refused("no wheel", none, () -> none.give(1), NONE);
        SpokeRing x = Kit.ring("sc0;k;k;k");
        for (int n : new int[] {0, -1, 51, Integer.MAX_VALUE, Integer.MIN_VALUE}) {
            Kit.refused("give " + n, x, () -> x.give(n), NONE);
        }
        due("1", x.give(1), 1);
        due("50", x.give(50), 51);
        due("49", x.give(49), 100);
        for (int i = 0; i < 17; i++) {
            x.give(50);
        }
        due("950", x.count(7), 950);
        Kit.refused("1000", x, () -> x.give(50), NONE);
        due("999", x.give(49), 999);
        Kit.refused("one above 999", x, () -> x.give(1), NONE);
        due("by one less", x.undo() >= 0, true);
        due("998", x.give(48), 998);
        Kit.refused("two above 998", x, () -> x.give(2), NONE);
        due("one on 998", x.give(1), 999);
    }

    private static void p16None() {
        Kit.says("Promise 16", "YEARS: the TURN. NONE: no WHEEL, out of bounds, beyond 999; Terms 4: n (1 .. 30) times");
        SpokeRing none = new SpokeRing();
        Kit.refused("no wheel", none, () -> none.years(1, 1), NONE);
        SpokeRing x = Kit.ring("k;k;k");
        for (int n : new int[] {0, -1, 31, Integer.MAX_VALUE, Integer.MIN_VALUE}) {
            Kit.refused("years " + n, x, () -> x.years(n, 1), NONE);
        }
        due("1", x.years(1, 1), 1);
        due("30", x.years(30, 1), 31);
        for (int last = 970; last <= 999; last += 29) {
            SpokeRing y = Kit.late("sl0;k;k;k", last);
            int above = 1000 - last;
            if (above <= 30) {
                Kit.refused("from " + last, y, () -> y.years(above, 1), NONE);
            }
            if (last < 999) {
                due("up to 999", y.years(above - 1, 1), 999);
            }
            Kit.refused("at 999", y, () -> y.years(1, 1), NONE);
            Kit.refused("30 at 999", y, () -> y.years(30, 1), NONE);
        }
    }

    private static void p17None() {
        Kit.says("Promise 17", "The latest ACT is UNDONE: how many still can be. NONE: none");
        SpokeRing none = new SpokeRing();
        Kit.refused("no wheel", none, () -> none.undo(), NONE);
        SpokeRing x = Kit.ring("k;k;k");
        Kit.refused("no act", x, () -> x.undo(), NONE);
        x.turn();
        x.turn();
        due("one still", x.undo(), 1);
        due("none still", x.undo(), 0);
        Kit.refused("none", x, () -> x.undo(), NONE);
        x.away(0);
        x.away(7);
        x.mend(0);
        x.vote(false);
        x.wet(3);
        x.give(0);
        x.years(0, 1);
        due("what is refused is no act", x.count(14), 1);
        due("off is undone", x.undo(), 0);
        due("all on", x.all(4), 7);
    }

    private static void p18None() {
        Kit.says("Promise 18", "LOG, the latest (i 0), the one ahead of it (1) ..: 0 DONE, 1 the place, 2 BROKEN (bits). "
                + "NONE: no such ones");
        SpokeRing none = new SpokeRing();
        Kit.refused("no wheel", none, () -> none.log(0, 0), NONE);
        SpokeRing x = Kit.ring("sl0;kv9o9;kv0o9;kv9o9");
        Kit.refused("none yet", x, () -> x.log(0, 0), NONE);
        x.turn();
        x.turn();
        int[][] wrong = {{2, 0}, {-1, 0}, {0, 3}, {0, -1}, {60, 0}, {Integer.MAX_VALUE, 0}, {Integer.MIN_VALUE, 0},
            {0, Integer.MAX_VALUE}, {0, Integer.MIN_VALUE}};
        for (int[] w : wrong) {
            Kit.refused("log(" + w[0] + ", " + w[1] + ")", x, () -> x.log(w[0], w[1]), NONE);
        }
        due("the latest", x.log(0, 1), 2);
        due("the one ahead of it", x.log(1, 1), 1);
        due("done", x.log(0, 0), 1);
        due("not done", x.log(1, 0), 0);
        x.undo();
        due("one is left", x.log(0, 1), 1);
        Kit.refused("the other is gone", x, () -> x.log(1, 1), NONE);
    }

    private static void p37Instead() {
        Kit.says("Promise 37", "An IMAGE (instead of the one ahead): the TURN");
        SpokeRing x = Kit.ring("sl0;k;k;k");
        due("0", x.image(), 0);
        x.turn();
        x.turn();
        due("2", x.image(), 2);
        x.turn();
        due("back to the later one", x.back(), 2);
        due("no act by it", x.count(14), 0);
        x.turn();
        x.image();
        due("acts stay with an image", x.count(14), 1);
        x.undo();
        due("on to a later one", x.back(), 3);
    }

    private static void p37None() {
        Kit.says("Promise 37", "NONE: no WHEEL");
        SpokeRing x = new SpokeRing();
        Kit.refused("no wheel", x, () -> x.image(), NONE);
        Kit.tell(x, 0, "k;k;k");
        Kit.refused("none was made by it", x, () -> x.back(), NONE);
        SpokeRing far = Kit.late("sl0;k;k;k", 999);
        due("at 999", far.image(), 999);
    }

    private static void p38None() {
        Kit.says("Promise 38", "BACK: the TURN. NONE: no IMAGE of this WHEEL");
        SpokeRing none = new SpokeRing();
        Kit.refused("no wheel", none, () -> none.back(), NONE);
        SpokeRing x = Kit.ring("sl0;k;k;k");
        x.turn();
        Kit.refused("no image", x, () -> x.back(), NONE);
        x.image();
        x.turn();
        due("back", x.back(), 1);
        due("back again", x.back(), 1);
        Kit.tell(x, 0, "k;k;k;k");
        x.turn();
        Kit.refused("of another wheel", x, () -> x.back(), NONE);
        x.image();
        due("of this one", x.back(), 1);
        Kit.tell(x, 0, "k;k");
        due("a fault makes no other wheel", x.back(), 1);
    }
}
