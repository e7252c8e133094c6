/** Each promise by hand: ordinary inputs, the document's edges, wrong inputs. */
public final class PromiseTest {
    private static final int NONE = SpokeRing.NONE;
    private static final int HIDDEN = SpokeRing.HIDDEN;
    private static final int NO_ELEMENT = -777;
    private static final String PLAIN = "k;k;k";

    public static void main(String[] args) {
        p01New();
        p02Feed();
        p03End();
        p04FaultOfWheels();
        p04FaultOfLaws();
        p04FaultOfJourneys();
        p05Text();
        p06Spoke();
        p07Law();
        p07Worth();
        p08Slip();
        p09Turn();
        p09Break();
        p10Hold();
        p11Away();
        p12Mend();
        p13Vote();
        p14Wet();
        p15Give();
        p16Years();
        p17Undo();
        p18Log();
        p19Step();
        p20Run();
        p21Perform();
        p22Bears();
        p23Spare();
        p24Plan();
        p25Settled();
        p26Seen();
        p27Views();
        p28Ask();
        p29Power();
        p30Often();
        p31First();
        p32Game();
        p33Rests();
        p34Odds();
        p35Shares();
        p36All();
        p37Image();
        p38Back();
        p39Count();
        Kit.end("PromiseTest");
    }

    private static void due(String what, long got, long want) {
        Kit.due(what, got, want);
    }

    private static void due(String what, boolean got, boolean want) {
        Kit.due(what, got, want);
    }

    private static void p01New() {
        due("NONE", SpokeRing.NONE, -1);
        due("HIDDEN", SpokeRing.HIDDEN, -1000000);
        SpokeRing x = new SpokeRing();
        int[] want = {0, 0, 0, 0, 0, -1, 0, 0, 0, 0, 0, 3, 0, 0, 0, 0};
        for (int i = 0; i < want.length; i++) {
            due("1 new: count(" + i + ")", x.count(i), want[i]);
        }
        for (int i = -1; i <= 12; i++) {
            due("1 new: all(" + i + ")", x.all(i), NONE);
        }
        due("1 new: spoke", Kit.spoke(x, 0, 0), NO_ELEMENT);
        due("1 new: turn", x.turn(), NONE);
        due("1 new: hold", x.hold(), NONE);
        due("1 new: back", x.back(), NONE);
        due("1 new: image", x.image(), NONE);
        due("1 new: undo", x.undo(), NONE);
    }

    private static void p02Feed() {
        SpokeRing x = new SpokeRing();
        due("2 none but 0", x.feed(0, 0, 0, 0, 0), 0);
        due("2 0 left out", x.feed(0x6B003B00, 0x006B, 0, 0x3B000000, 0x6B), 5);
        due("2 the order", x.fault(0), NONE);
        due("2 high bytes", x.feed(0xFF80FFFF, 0, 0, 0, 0), 9);
        due("2 high bytes read", x.fault(0), 5);
        for (int i = 0; i < 11; i++) {
            x.feed(-1, -1, -1, -1, -1);
        }
        due("2 229", x.count(4), 229);
        due("2 above 240", x.feed(-1, -1, -1, 0, 0), NONE);
        due("2 nothing changed", x.count(4), 229);
        due("2 240", x.feed(-1, -1, 0, 0, 0x00ABCDEF), 240);
        due("2 none at 240", x.feed(0, 0, 0, 0, 0), 240);
        due("2 one at 240", x.feed(0, 0, 0, 0, 1), NONE);
        due("2 still 240", x.count(4), 240);
        x.end(239);
        due("2 each number counts: b", x.feed(0, 1, 0, 0, 1), NONE);
        due("2 each number counts: c", x.feed(0, 0, 1, 0, 1), NONE);
        due("2 each number counts: d", x.feed(0, 0, 0, 1, 1), NONE);
        due("2 each number counts: a", x.feed(1, 0, 0, 0, 1), NONE);
        due("2 one more", x.feed(0, 0, 0, 1 << 24, 0), 240);
    }

    private static void p03End() {
        SpokeRing x = new SpokeRing();
        due("3 0 of none", x.end(0), true);
        due("3 1 of none", x.end(1), false);
        Kit.type(x, "k;k;k;x");
        due("3 below", x.end(-1), false);
        due("3 above", x.end(8), false);
        due("3 kept", x.count(4), 7);
        due("3 all", x.end(7), true);
        due("3 five", x.end(5), true);
        due("3 the first ones", x.fault(0), NONE);
        due("3 far", x.end(Integer.MAX_VALUE), false);
        due("3 far below", x.end(Integer.MIN_VALUE), false);
    }

    private static void p04FaultOfWheels() {
        Kit.fault(-1, "k;k;k", -2);
        Kit.fault(3, "k;k;k", -2);
        Kit.fault(0, "", 0);
        Kit.fault(0, "   ", 3);
        Kit.fault(0, "k;k;k", NONE);
        Kit.fault(0, "k;k;k ", NONE);
        Kit.fault(0, "k;s;k;k", NONE);
        Kit.fault(0, "k;k;k;s", NONE);
        Kit.fault(0, "sa1c0w9l0;kv0o9s99;ks1;k", NONE);
        Kit.fault(0, "s l 0 9 ", 6);
        Kit.fault(0, "s l 09 ; k ; k ; k", NONE);
        Kit.fault(0, "k;k ", 4);
        Kit.fault(0, "s;k;k", 5);
        Kit.fault(0, "k;;k", 2);
        Kit.fault(0, "k,k", 1);
        Kit.fault(0, "S", 0);
        Kit.fault(0, "kk", 1);
        Kit.fault(0, "s;k;k;s", 6);
        Kit.fault(0, "s;k;k;k;k;k;k;k;k", NONE);
        Kit.fault(0, "s;k;k;k;k;k;k;k;k;k", 18);
        Kit.fault(0, "k;k;k;k;k;k;k;k;s", NONE);
        Kit.fault(0, "k;k;k;k;k;k;k;k;s;s", 18);
        Kit.fault(0, "sl0w0c0a0;kv0o0;k;k", NONE);
        Kit.fault(0, "sl99w9c99a1;ks99v9o9;k;k", NONE);
        Kit.fault(0, "sl1w1c1l1", 7);
        Kit.fault(0, "sw1w1", 3);
        Kit.fault(0, "sc1c1", 3);
        Kit.fault(0, "sa1a1", 3);
        Kit.fault(0, "kv1v1", 3);
        Kit.fault(0, "ko1o1", 3);
        Kit.fault(0, "k;k;kv", 6);
        Kit.fault(0, "k;k;kv1s", 8);
        Kit.fault(0, "sl", 2);
        Kit.fault(0, "slw", 2);
        Kit.fault(0, "sl99l", 4);
        Kit.fault(0, "sl99w10", 6);
        Kit.fault(0, "sw010", 4);
        Kit.fault(0, "sa2", 2);
        Kit.fault(0, "sa10;k", 3);
        Kit.fault(0, "sa01;k;k;k", NONE);
        Kit.fault(0, "ks00;k", 3);
        Kit.fault(0, "ks0", 2);
        Kit.fault(0, "ks001", 4);
        Kit.fault(0, "kv990", 4);
        Kit.fault(0, "kv10 ", 3);
        Kit.fault(0, "ko1s2v3o", 7);
        Kit.fault(0, "ko1s2v3x", 7);
        Kit.fault(0, "kw1", 1);
        Kit.fault(0, "sv1", 1);
        Kit.fault(0, "k;k;k\u00e9", 5);
    }

    private static void p04FaultOfLaws() {
        Kit.fault(1, "", 0);
        Kit.fault(1, "y", 1);
        Kit.fault(1, "y:", 2);
        Kit.fault(1, " y : 1 ", NONE);
        Kit.fault(1, "y;", 1);
        Kit.fault(1, "5", 0);
        Kit.fault(1, "y5", 1);
        Kit.fault(1, "y:1;5", 4);
        Kit.fault(1, "y:1;y5", 5);
        Kit.fault(1, "x", 0);
        Kit.fault(1, "y:0000", NONE);
        Kit.fault(1, "y:00000", 6);
        Kit.fault(1, "y:9999", NONE);
        Kit.fault(1, "y:1 2", 4);
        Kit.fault(1, "y:v+d-o*h/w+t", NONE);
        Kit.fault(1, "y:s", 2);
        Kit.fault(1, "y:-1", 2);
        Kit.fault(1, "y:v+", 4);
        Kit.fault(1, "y:v++", 4);
        Kit.fault(1, "y:v*", 4);
        Kit.fault(1, "y:v/+", 4);
        Kit.fault(1, "y:v-[", 5);
        Kit.fault(1, "y:[v", 4);
        Kit.fault(1, "y:[v)", 4);
        Kit.fault(1, "y:[v]", NONE);
        Kit.fault(1, "y:[v=1]", 4);
        Kit.fault(1, "y:v?1", 3);
        Kit.fault(1, "y:v=1?1", NONE);
        Kit.fault(1, "y:v=1", 5);
        Kit.fault(1, "y:v=1;", 5);
        Kit.fault(1, "y:v=1=1", 5);
        Kit.fault(1, "y:v<1?", 6);
        Kit.fault(1, "y:v<1?d>1", 7);
        Kit.fault(1, "y:v<1?d?", 7);
        Kit.fault(1, "y:1;", 4);
        Kit.fault(1, "y:1;y:2;y:3=3?4", NONE);
        Kit.fault(1, "y:1;k", 4);
        Kit.fault(1, "y:(v=1)?1", NONE);
        Kit.fault(1, "y:(v=1)", 7);
        Kit.fault(1, "y:(v)=1?1", 4);
        Kit.fault(1, "y:(v=1", 6);
        Kit.fault(1, "y:(v=1]", 6);
        Kit.fault(1, "y:()", 3);
        Kit.fault(1, "y:!v", 4);
        Kit.fault(1, "y:!v=1?2", NONE);
        Kit.fault(1, "y:!?", 3);
        Kit.fault(1, "y:v=1&d", 7);
        Kit.fault(1, "y:v=1&d?", 7);
        Kit.fault(1, "y:v=1|!(d=2&o>3)&w<4?t", NONE);
        Kit.fault(1, "y:v=1||d=1?1", 6);
        Kit.fault(1, "y:[[[[[[1]]]]]]", NONE);
        Kit.fault(1, "y:[[[[[[[1", 8);
        Kit.fault(1, "y:((((((1=1))))))?1", NONE);
        Kit.fault(1, "y:(((((((1", 8);
        Kit.fault(1, "y:!!!!!!1=1?1", NONE);
        Kit.fault(1, "y:!!!!!!(1", 8);
        Kit.fault(1, "y:!!!!!![1", 8);
        Kit.fault(1, "y:!!!!!!1=[1", 10);
        Kit.fault(1, "y:!!!!!1=[1]?[[[[[[1]]]]]]", NONE);
        Kit.fault(1, "y:!!!!!!1=1&!!!!!!2=2?1", NONE);
        Kit.fault(1, "y:!(!(!([1", 8);
        Kit.fault(1, "y:!(!(!(1=[1", 10);
        Kit.fault(1, "y:1=[[[[[[1]]]]]]?1", NONE);
        Kit.fault(1, "y:1=[[[[[[[", 10);
    }

    private static void p04FaultOfJourneys() {
        Kit.fault(2, "", 0);
        Kit.fault(2, " ", 1);
        Kit.fault(2, "t;h;g0;m9", NONE);
        Kit.fault(2, " t ; h ; g 0 ; m 9 ", NONE);
        Kit.fault(2, "t;", 2);
        Kit.fault(2, "th", 1);
        Kit.fault(2, "g", 1);
        Kit.fault(2, "m ", 2);
        Kit.fault(2, "g12", 2);
        Kit.fault(2, "g1 2", 3);
        Kit.fault(2, "g01", 2);
        Kit.fault(2, "gt", 1);
        Kit.fault(2, "h;x", 2);
        Kit.fault(2, "t;t;t;t;t;t;t;t;t;t;t;t;t;t;t;t", NONE);
        Kit.fault(2, "t;t;t;t;t;t;t;t;t;t;t;t;t;t;t;t;", 31);
        Kit.fault(2, "t;t;t;t;t;t;t;t;t;t;t;t;t;t;t;t ; x", 32);
    }

    private static void p05Text() {
        SpokeRing x = new SpokeRing();
        due("5 a fault", Kit.tell(x, 0, "k;k"), NONE);
        due("5 the tape stays", x.count(4), 3);
        due("5 no such sort", x.text(3), NONE);
        due("5 no such sort below", x.text(-1), NONE);
        due("5 a wheel", Kit.tell(x, 0, "k;sl8;k;k;k"), 4);
        due("5 the tape is empty", x.count(4), 0);
        due("5 an empty tape", x.text(0), NONE);
        due("5 a law", Kit.tell(x, 1, "y:9"), 0);
        due("5 a journey", Kit.tell(x, 2, "t;h"), 0);
        x.law(0);
        x.slip(7);
        x.turn();
        x.away(1);
        x.vote(true);
        x.wet(8);
        x.seen(1, true);
        x.image();
        due("5 a fault changes nothing", Kit.tell(x, 0, "k;k;k;"), NONE);
        due("5 spokes still", x.count(0), 4);
        due("5 turn still", x.count(6), 1);
        due("5 another wheel", Kit.tell(x, 0, "sl1w2c3a0;k;kv7;k"), 3);
        int[] want = {3, 1, 1, 1, 0, 0, 0, 3, 2, 0, 0, 7, 0, 0, 0, 0};
        for (int i = 0; i < want.length; i++) {
            due("5 another wheel: count(" + i + ")", x.count(i), want[i]);
        }
        due("5 all on", x.all(4), 7);
        due("5 no image", x.back(), NONE);
        due("5 nothing to undo", x.undo(), NONE);
        due("5 no log", x.log(0, 0), NONE);
        for (int i = 1; i < 4; i++) {
            due("5 law " + i, Kit.tell(x, 1, "y:" + i), i);
            due("5 journey " + i, Kit.tell(x, 2, "t"), i);
        }
        due("5 a fifth law", Kit.tell(x, 1, "y:4"), NONE);
        due("5 a fifth journey", Kit.tell(x, 2, "t"), NONE);
        due("5 its tape stays", x.count(4), 1);
        SpokeRing other = new SpokeRing();
        Kit.type(other, "t");
        due("5 a journey's tape, no such sort", other.text(3), NONE);
        due("5 a journey's tape, no such sort below", other.text(-1), NONE);
        due("5 no journey by these", other.count(3), 0);
        SpokeRing all = Kit.ring("k;k;k;k;k;k;k;k;sa1");
        due("5 eight spokes", all.count(0), 8);
        due("5 all vote", all.count(9), 1);
        due("5 usual load", all.count(1), 24);
        due("5 usual coins", all.count(7), 20);
        due("5 usual wet", all.count(8), 3);
    }

    private static void p06Spoke() {
        SpokeRing x = Kit.ring("sl8;ks9v8o7;k;ks1v0o0");
        due("6 strength", Kit.spoke(x, 0, 0), 9);
        due("6 view", Kit.spoke(x, 0, 1), 8);
        due("6 obstinate", Kit.spoke(x, 0, 2), 7);
        due("6 usual strength", Kit.spoke(x, 1, 0), 30);
        due("6 usual view", Kit.spoke(x, 1, 1), 5);
        due("6 usual obstinate", Kit.spoke(x, 1, 2), 2);
        due("6 bears at the bottom", Kit.spoke(x, 0, 4), 4);
        due("6 bears beside", Kit.spoke(x, 1, 4), 2);
        due("6 on", Kit.spoke(x, 2, 3), 0);
        due("6 no such spoke", Kit.spoke(x, 3, 0), NO_ELEMENT);
        due("6 no such spoke below", Kit.spoke(x, -1, 0), NO_ELEMENT);
        due("6 nothing such", Kit.spoke(x, 0, 5), NO_ELEMENT);
        due("6 nothing such below", Kit.spoke(x, 0, -1), NO_ELEMENT);
        x.away(0);
        due("6 off", Kit.spoke(x, 0, 3), 1);
        due("6 off bears", Kit.spoke(x, 0, 4), 0);
        due("6 the next bears it", Kit.spoke(x, 1, 4), 6);
        x.turn();
        due("6 broken", Kit.spoke(x, 2, 3), 2);
        due("6 broken bears", Kit.spoke(x, 2, 4), 0);
        due("6 it falls on", Kit.spoke(x, 1, 4), 8);
    }

    private static void p07Law() {
        SpokeRing x = new SpokeRing();
        due("7 none", x.law(NONE), true);
        due("7 no such", x.law(0), false);
        Kit.tell(x, 1, "y:9");
        due("7 not by itself", x.count(5), NONE);
        due("7 it", x.law(0), true);
        due("7 again", x.law(0), true);
        due("7 holds", x.count(5), 0);
        due("7 above", x.law(1), false);
        due("7 below", x.law(-2), false);
        due("7 still", x.count(5), 0);
        due("7 none again", x.law(NONE), true);
        due("7 none holds", x.count(5), NONE);
    }

    /** The view that spoke 0 (view 4, obstinate 1, spoke 1 down with view 7) has by a law. */
    private static void worth(String law, int want) {
        SpokeRing x = Kit.ring("sw6;kv4o1;kv7o8;k;k;k", law);
        x.turn();
        due("7 by " + law, Kit.spoke(x, 0, 1), want);
        due("7 who is down keeps his by " + law, Kit.spoke(x, 1, 1), 7);
    }

    private static void p07Worth() {
        worth("y:v", 4);
        worth("y:d", 7);
        worth("y:o", 1);
        worth("y:h", 1);
        worth("y:w", 6);
        worth("y:t", 0);
        worth("y:t+3", 3);
        worth("y:33-30", 3);
        worth("y:v+d", 9);
        worth("y:v-d", 0);
        worth("y:2+3*2-1", 7);
        worth("y:[2+1]*2-1", 5);
        worth("y:9-3-2", 4);
        worth("y:9/2/2", 2);
        worth("y:7-[0-7]/2*[0-1]", 4);
        worth("y:[0-7]/2+9", 6);
        worth("y:5/0+3", 3);
        worth("y:5/[v-4]+1", 1);
        worth("y:9999*9999/9999/20", 5);
        worth("y:9999*9999-9999*9999+4", 4);
        worth("y:9999*9999*[9999*9999]/9999/20", 5);
        worth("y:9999*9999*[0-9999*9999]+9999*9999+4", 4);
        worth("y:[0-9999]*9999/9999/20+9", 4);
        worth("y:9999*100+9999*100-9999*100-90", 9);
        worth("y:9999*100+9999*100-9999*100-99", 1);
        worth("y:0-9999*100-9999*100+9999*100+99", 0);
        worth("y:0-9999*100-9999*100+9999*100+104", 4);
        worth("y:v=4?8;y:2", 8);
        worth("y:v<4?8;y:2", 2);
        worth("y:v>4?8;y:2", 2);
        worth("y:v>3?8;y:2", 8);
        worth("y:v<5?8;y:2", 8);
        worth("y:!v=4?8;y:2", 2);
        worth("y:!!v=4?8;y:2", 8);
        worth("y:!v=4|v=4?8;y:2", 8);
        worth("y:w=6&!v=3?8;y:2", 8);
        worth("y:w=6&!v=4?8;y:2", 2);
        worth("y:w=5|!!v=4?8;y:2", 8);
        worth("y:1=2?[[[[[[8]]]]]];y:1+[1+[1+[1+[1+[1+[1]]]]]]", 7);
        worth("y:!(v=4|v=4)?8;y:2", 2);
        worth("y:1=1|1=1&1=2?8;y:2", 8);
        worth("y:(1=1|1=1)&1=2?8;y:2", 2);
        worth("y:1=2&1=1|1=1?8;y:2", 8);
        worth("y:v=3?1;y:v=4?6;y:v=4?7", 6);
        worth("y:v=3?1", 0);
        worth("y:3;y:4", 3);
        worth("y:v+d=11&v*d=28?8", 8);
        Kit.views("7 h the shorter way", turned(Kit.ring("k;k;k;k;k;k", "y:h")), 1, 5, 1, 2, 3, 2);
        SpokeRing late = Kit.ring("sl0;kv5;kv5;kv5", "y:t/10");
        for (int i = 0; i < 91; i++) {
            late.turn();
        }
        // behind turn 90 (told as t) the bottom is 91 modulo 3
        Kit.views("7 t 90", late, 9, late.spoke(1, 1), 9);
        for (int i = 0; i < 20; i++) {
            late.turn();
        }
        due("7 t goes round at 100", Kit.spoke(late, 1, 1), 1);
        // all go by the views as they were: both see 9 and 1, nobody a new one
        SpokeRing swap = Kit.ring("sl0;kv1;kv9;kv3", "y:d-v");
        swap.turn();
        Kit.views("7 held within", swap, 8, 9, 6);
        swap.law(NONE);
        swap.turn();
        Kit.views("7 without a law again", swap, 8, 8, 6);
    }

    private static SpokeRing turned(SpokeRing x) {
        x.turn();
        return x;
    }

    private static void p08Slip() {
        SpokeRing x = new SpokeRing();
        due("8 so at first", x.slip(3), false);
        due("8 below", x.slip(-1), false);
        due("8 above", x.slip(10), false);
        due("8 9", x.slip(9), true);
        due("8 it is so", x.slip(9), false);
        due("8 told", x.count(11), 9);
        due("8 0", x.slip(0), true);
        due("8 told 0", x.count(11), 0);
        Kit.tell(x, 0, PLAIN);
        due("8 stays with a wheel", x.count(11), 0);
        due("8 is no act", x.count(14), 0);
    }

    private static void p09Turn() {
        SpokeRing x = Kit.ring("sl9c7;kv9o0;kv4o1;kv6o1;kv1o9");
        due("9 turn 1 isn't done", x.turn(), 0);
        Kit.views("9 turn 1", x, 8, 4, 5, 1);
        due("9 bottom 1", x.count(15), 1);
        due("9 coins 1", x.count(7), 7);
        due("9 turn 2 is done", x.turn(), 1);
        Kit.views("9 turn 2", x, 7, 4, 5, 1);
        due("9 coins 2", x.count(7), 8);
        due("9 done 2", x.count(10), 1);
        due("9 turn 3", x.turn(), 0);
        Kit.views("9 turn 3", x, 6, 3, 4, 1);
        due("9 turn 4", x.turn(), 1);
        due("9 bottom 4", x.count(15), 0);
        Kit.views("9 turn 4", x, 6, 4, 5, 1);
        due("9 turns", x.count(6), 4);
        due("9 acts", x.count(14), 4);
        due("9 all vote", x.vote(true), true);
        due("9 by two of four", x.turn(), 0);
        due("9 to 999", Kit.ring("k;k;k").turn(), 1);
        SpokeRing far = Kit.ring("sl0c0;k;k;k");
        far.years(30, 5);
        for (int i = 0; i < 32; i++) {
            far.years(30, i);
        }
        due("9 990", far.count(6), 990);
        for (int i = 0; i < 9; i++) {
            due("9 on " + i, far.turn(), 1);
        }
        due("9 999", far.count(6), 999);
        due("9 beyond 999", far.turn(), NONE);
        due("9 held beyond 999", far.hold(), NONE);
        due("9 999 still", far.count(6), 999);
        due("9 999 coins at most", far.count(7), 999);
        due("9 all done", far.count(10), 999);
        due("9 next beyond 999", far.all(8), 1);
    }

    private static void p09Break() {
        // the load 20: 10, 5, 5
        SpokeRing x = Kit.ring("sl20;ks9v9;ks4v9;ks12v0;ks20v5");
        due("9 nobody is down", x.turn(), 0);
        due("9 broken", x.all(6), 2);
        due("9 on", x.all(4), 13);
        Kit.views("9 views stay", x, 9, 9, 0, 5);
        due("9 what he bore goes on", Kit.spoke(x, 2, 4), 15);
        x.turn();
        // place 2: 10, place 3: 5, what falls to 1 goes on to 2: he bears 15 > 12
        due("9 broken 2", x.all(6), 6);
        x.turn();
        // place 3: 10, place 0: 5, place 2 goes on to 3: 15
        due("9 broken 3", x.all(6), 6);
        due("9 down is 3", x.count(15), 3);
        x.turn();
        // place 0: 10 > 9, place 1 goes on to 3: 5, place 3: 5
        due("9 broken 4", x.all(6), 7);
        due("9 the log tells who", x.log(0, 2), 1);
        // all at once, by what they bore as it began
        SpokeRing at = Kit.ring("sl20;ks4;ks9;ks4;ks99");
        at.turn();
        due("9 all at once", at.all(6), 7);
        due("9 the last", Kit.spoke(at, 3, 4), 20);
        SpokeRing none = Kit.ring("sl99;ks1;ks1;ks1");
        due("9 nobody is left", none.turn(), 0);
        due("9 nobody bears", Kit.spoke(none, 1, 4), 0);
        due("9 none on", none.all(4), 0);
        due("9 turns go on", none.turn(), 0);
        due("9 as much as strength does not break", Kit.ring("sl20;ks5;ks10;ks5").turn(), 1);
        SpokeRing voters = Kit.ring("sa1l0;kv9;kv0;kv9");
        voters.away(1);
        due("9 all vote though nobody is down", voters.turn(), 1);
        SpokeRing bare = Kit.ring("sl0;kv9;kv9;kv9");
        bare.away(1);
        due("9 nobody is down, it is not done", bare.turn(), 0);
    }

    private static void p10Hold() {
        SpokeRing x = Kit.ring("sc1;kv4;kv9;kv9");
        due("10 not done", x.hold(), 0);
        due("10 a coin", x.count(7), 0);
        due("10 the bottom stays", x.count(15), 0);
        due("10 a turn later", x.count(6), 1);
        due("10 no coin", x.hold(), NONE);
        due("10 nothing", x.count(6), 1);
        due("10 views go by him", Kit.spoke(x, 1, 1), 8);
        due("10 turn", x.turn(), 1);
        due("10 done", x.hold(), 1);
        due("10 a coin, one more", x.count(7), 1);
        due("10 log", x.log(0, 1), 1);
        SpokeRing rich = Kit.ring("sc99;k;k;k");
        for (int i = 0; i < 18; i++) {
            rich.give(50);
        }
        due("10 999", rich.count(7), 999);
        rich.hold();
        due("10 paid first", rich.count(7), 999);
        due("10 undone", rich.undo(), 18);
        due("10 999 again", rich.count(7), 999);
    }

    private static void p11Away() {
        SpokeRing x = Kit.ring("sc5l20;ks4;ks9;k");
        due("11 off", x.away(0), 0);
        due("11 coins", x.count(7), 3);
        due("11 off bits", x.all(5), 1);
        due("11 on", x.away(0), 1);
        due("11 on bits", x.all(4), 7);
        due("11 one coin", x.count(7), 1);
        due("11 too few", x.away(0), NONE);
        due("11 below", x.away(-1), NONE);
        due("11 above", x.away(3), NONE);
        x.give(50);
        x.turn();
        due("11 broken ones", x.all(6), 3);
        due("11 broken", x.away(0), NONE);
        due("11 no cost", x.count(7), 51);
        due("11 two coins", exactly(2).away(0), 0);
        due("11 no turn", x.count(6), 1);
    }

    private static SpokeRing exactly(int coins) {
        return Kit.ring("sc" + coins + ";k;k;k");
    }

    private static void p12Mend() {
        SpokeRing x = Kit.ring("sc3l20;ks4;ks9;k");
        due("12 not broken", x.mend(0), NONE);
        x.turn();
        due("12 too few", x.mend(0), NONE);
        x.give(1);
        due("12 mended", x.mend(0), 2);
        due("12 coins", x.count(7), 0);
        due("12 on", Kit.spoke(x, 0, 3), 0);
        due("12 the other is broken", x.all(6), 2);
        x.give(50);
        due("12 not broken any more", x.mend(0), NONE);
        due("12 below", x.mend(-1), NONE);
        due("12 above", x.mend(3), NONE);
        x.away(2);
        due("12 off", x.mend(2), NONE);
        due("12 three", x.mend(1), 2);
    }

    private static void p13Vote() {
        SpokeRing x = Kit.ring("kv9;kv0;kv9");
        due("13 it is so", x.vote(false), false);
        due("13 all", x.vote(true), true);
        due("13 it is so now", x.vote(true), false);
        due("13 told", x.count(9), 1);
        due("13 an act", x.count(14), 1);
        due("13 most", x.all(8), 1);
        due("13 not any more", x.vote(false), true);
        due("13 by him", x.all(8), 0);
        due("13 no wheel", new SpokeRing().vote(true), false);
    }

    private static void p14Wet() {
        SpokeRing x = Kit.ring("sw9;k;k;k", "y:w");
        due("14 it is so", x.wet(9), NONE);
        due("14 above", x.wet(10), NONE);
        due("14 below", x.wet(-1), NONE);
        due("14 was", x.wet(0), 9);
        due("14 up to 9", x.wet(9), 0);
        due("14 one undone", x.undo(), 1);
        due("14 was 0", x.wet(7), 0);
        due("14 acts", x.count(14), 2);
        x.turn();
        due("14 by the law", Kit.spoke(x, 0, 1), 7);
        due("14 free", x.count(7), 21);
    }

    private static void p15Give() {
        SpokeRing x = Kit.ring("sc99;k;k;k");
        due("15 none", x.give(0), NONE);
        due("15 above", x.give(51), NONE);
        due("15 below", x.give(-1), NONE);
        due("15 one", x.give(1), 100);
        for (int i = 0; i < 17; i++) {
            x.give(50);
        }
        due("15 above 999", x.give(50), NONE);
        due("15 999", x.give(49), 999);
        due("15 beyond", x.give(1), NONE);
        due("15 far", x.give(Integer.MAX_VALUE), NONE);
    }

    private static void p16Years() {
        SpokeRing x = Kit.ring("sl20c0;ks4v9;ks9v1;ks30v6;k");
        due("16 none", x.years(0, 1), NONE);
        due("16 above", x.years(31, 1), NONE);
        due("16 30", x.years(30, 12345L), 30);
        // the same by hand: a draw for mending, one for the road, one for slipping
        SpokeRing y = Kit.ring("sl20c99;ks4v9;ks9v1;ks30v6;k");
        long seed = 12345L;
        for (int i = 0; i < 30; i++) {
            seed = seed * 6364136223846793005L + 1442695040888963407L;
            int hurt = (int) ((seed >>> 33) % 4);
            if (y.count(7) < 50) {
                y.give(50);
            }
            y.mend(hurt);
            seed = seed * 6364136223846793005L + 1442695040888963407L;
            y.wet((int) ((seed >>> 33) % 10));
            seed = seed * 6364136223846793005L + 1442695040888963407L;
            if ((seed >>> 33) % 10 < 3) {
                y.hold();
            } else {
                y.turn();
            }
        }
        int[] same = {0, 6, 8, 9, 10, 13, 15};
        for (int what : same) {
            due("16 count(" + what + ")", x.count(what), y.count(what));
        }
        for (int i = 0; i < 30; i++) {
            for (int what = 0; what < 3; what++) {
                due("16 log(" + i + ", " + what + ")", x.log(i, what), y.log(i, what));
            }
        }
        Kit.views("16", x, y.spoke(0, 1), y.spoke(1, 1), y.spoke(2, 1), y.spoke(3, 1));
        due("16 coins are got, none paid", x.count(7), x.count(10));
        due("16 an act each", x.count(14), 30);
        due("16 undone", x.undo(), 29);
        due("16 a year back", x.count(6), 29);
        SpokeRing slippery = Kit.ring("k;k;k");
        slippery.slip(0);
        slippery.years(10, -1);
        due("16 never held", slippery.count(15), 1);
        SpokeRing far = Kit.ring("k;k;k");
        for (int i = 0; i < 33; i++) {
            far.years(30, Long.MIN_VALUE + i);
        }
        due("16 beyond 999", far.years(10, 1), NONE);
        due("16 990 still", far.count(6), 990);
        due("16 999", far.years(9, 1), 999);
        due("16 none at 999", far.years(1, 1), NONE);
        due("16 one year", Kit.ring("k;k;k").years(1, 9), 1);
        due("16 no wheel", new SpokeRing().years(1, 1), NONE);
    }

    private static void p17Undo() {
        SpokeRing x = Kit.ring("sl20w1;ks4v9;ks9v1;ks30v6;k");
        due("17 none", x.undo(), NONE);
        x.turn();
        x.mend(1);
        x.away(1);
        x.vote(true);
        x.wet(5);
        x.give(7);
        x.hold();
        due("17 seven", x.count(14), 7);
        due("17 hold", x.undo(), 6);
        due("17 turn 1", x.count(6), 1);
        due("17 log, too", x.count(13), 1);
        due("17 give", x.undo(), 5);
        due("17 wet", x.undo(), 4);
        due("17 wet 1", x.count(8), 1);
        due("17 vote", x.undo(), 3);
        due("17 not all", x.count(9), 0);
        due("17 away", x.undo(), 2);
        int coins = x.count(7);
        due("17 on again", Kit.spoke(x, 1, 3), 0);
        due("17 mend", x.undo(), 1);
        due("17 broken again", Kit.spoke(x, 1, 3), 2);
        due("17 coins", x.count(7), coins + 4);
        due("17 turn", x.undo(), 0);
        Kit.views("17", x, 9, 1, 6, 5);
        due("17 bottom", x.count(15), 0);
        due("17 done", x.count(10), 0);
        due("17 no log", x.log(0, 0), NONE);
        due("17 none left", x.undo(), NONE);
        // the log comes back whole, even where it was full
        SpokeRing full = Kit.ring("sl0;kv9o9;kv0o9;kv9o9;kv9o9");
        full.years(30, 3);
        full.years(30, 4);
        int[] before = new int[60];
        for (int i = 0; i < 60; i++) {
            before[i] = full.log(i, 1);
        }
        for (int i = 0; i < 45; i++) {
            full.turn();
        }
        due("17 forty", full.count(14), 40);
        for (int i = 0; i < 40; i++) {
            full.undo();
        }
        due("17 no more", full.undo(), NONE);
        due("17 the turn", full.count(6), 65);
        due("17 the log is full", full.count(13), 60);
        for (int i = 0; i < 55; i++) {
            due("17 log(" + (i + 5) + ")", full.log(i + 5, 1), before[i]);
        }
    }

    private static void p18Log() {
        SpokeRing x = Kit.ring("sl20;ks4v9;ks9v1;ks30v6;k");
        due("18 none", x.log(0, 0), NONE);
        x.turn();
        x.hold();
        x.turn();
        due("18 done", x.log(0, 0), 1);
        due("18 place", x.log(0, 1), 2);
        due("18 broken", x.log(0, 2), 0);
        due("18 held", x.log(1, 1), 1);
        due("18 not done", x.log(1, 0), 0);
        due("18 the first", x.log(2, 2), 3);
        due("18 above", x.log(3, 0), NONE);
        due("18 below", x.log(-1, 0), NONE);
        due("18 no such", x.log(0, 3), NONE);
        due("18 no such below", x.log(0, -1), NONE);
        x.give(1);
        due("18 only turns", x.count(13), 3);
        SpokeRing far = Kit.ring("k;k;k;k;k;k;k");
        far.slip(0);
        far.years(30, 1);
        far.years(30, 1);
        far.years(7, 1);
        due("18 sixty", far.count(13), 60);
        due("18 the oldest", far.log(59, 1), 1);
        due("18 no older", far.log(60, 1), NONE);
    }

    private static void p19Step() {
        SpokeRing x = new SpokeRing();
        due("19 none", x.step(0, 0, 0), HIDDEN);
        Kit.tell(x, 2, "t;h;g3;m9");
        int[] digits = {NONE, NONE, 3, 9};
        for (int i = 0; i < 4; i++) {
            due("19 what " + i, x.step(0, i, 0), i);
            due("19 digit " + i, x.step(0, i, 1), digits[i]);
        }
        due("19 no such journey", x.step(1, 0, 0), HIDDEN);
        due("19 below", x.step(-1, 0, 0), HIDDEN);
        due("19 no such step", x.step(0, 4, 0), HIDDEN);
        due("19 step below", x.step(0, -1, 0), HIDDEN);
        due("19 no such what", x.step(0, 0, 2), HIDDEN);
        due("19 what below", x.step(0, 0, -1), HIDDEN);
    }

    private static void p20Run() {
        SpokeRing x = new SpokeRing();
        Kit.tell(x, 2, "t;h;h;g0;t");
        due("20 no wheel", x.run(0, 0), HIDDEN);
        Kit.tell(x, 0, "sc1l0;kv9o9;kv0o9;kv9o9");
        due("20 the first that can't be", x.run(0, 0), 2);
        due("20 done", x.run(0, 1), 0);
        due("20 nothing changed", x.count(6), 0);
        x.give(3);
        due("20 all can be", x.run(0, 0), NONE);
        due("20 done by the last", x.run(0, 1), 1);
        due("20 no such what", x.run(0, 2), HIDDEN);
        due("20 what below", x.run(0, -1), HIDDEN);
        due("20 no such journey", x.run(1, 0), HIDDEN);
        due("20 below", x.run(-1, 0), HIDDEN);
        Kit.tell(x, 2, "g3");
        due("20 no such spoke", x.run(1, 0), 0);
        Kit.tell(x, 2, "m0;t");
        due("20 not broken", x.run(2, 0), 0);
        SpokeRing poor = Kit.ring("sc0l0;kv9;kv9;kv9");
        Kit.tell(poor, 2, "t;h;h;t;g0;m0");
        due("20 coins got count", poor.run(0, 0), 5);
        due("20 done four times", poor.run(0, 1), 4);
        SpokeRing far = Kit.ring("sl0;k;k;k");
        Kit.tell(far, 2, "t;h;t;t");
        for (int i = 0; i < 33; i++) {
            far.years(30, i);
        }
        far.years(7, 1);
        due("20 beyond 999", far.run(0, 0), 2);
        due("20 done up to 999", far.run(0, 1), 2);
    }

    private static void p21Perform() {
        SpokeRing x = new SpokeRing();
        Kit.tell(x, 2, "t;h;h;g0;t");
        due("21 no wheel", x.perform(0), NONE);
        Kit.tell(x, 0, "sc1l0;kv9o9;kv0o9;kv9o9");
        due("21 two", x.perform(0), 2);
        due("21 two acts", x.count(14), 2);
        due("21 turn 2", x.count(6), 2);
        due("21 no coin", x.count(7), 0);
        due("21 log", x.count(13), 2);
        due("21 no such", x.perform(1), NONE);
        due("21 below", x.perform(-1), NONE);
        x.undo();
        due("21 one undone", x.count(6), 1);
        due("21 its coin", x.count(7), 1);
        Kit.tell(x, 2, "m1");
        due("21 none", x.perform(1), 0);
        x.give(50);
        due("21 all", x.perform(0), 5);
        due("21 one off", x.all(5), 1);
    }

    private static void p22Bears() {
        SpokeRing x = Kit.ring("sl11;k;k;k;k;k");
        // 6, 3, 2
        due("22 bottom", x.bears(2, 2), 6);
        due("22 next", x.bears(3, 2), 3);
        due("22 ahead", x.bears(1, 2), 2);
        due("22 far", x.bears(0, 2), 0);
        due("22 round", x.bears(0, 4), 3);
        due("22 round ahead", x.bears(4, 0), 2);
        due("22 below", x.bears(-1, 0), NONE);
        due("22 above", x.bears(5, 0), NONE);
        due("22 no such bottom", x.bears(0, 5), NONE);
        due("22 bottom below", x.bears(0, -1), NONE);
        x.away(2);
        due("22 off", x.bears(2, 2), 0);
        due("22 behind it", x.bears(3, 2), 9);
        x.away(3);
        due("22 further", x.bears(4, 2), 9);
        due("22 ahead still", x.bears(1, 2), 2);
        x.away(4);
        due("22 round 0", x.bears(0, 2), 9);
        x.away(0);
        due("22 to the last", x.bears(1, 2), 11);
        due("22 no load", Kit.ring("sl0;k;k;k").bears(0, 0), 0);
        due("22 load 1", Kit.ring("sl1;k;k;k").bears(1, 0), 0);
        due("22 load 2", Kit.ring("sl2;k;k;k").bears(1, 0), 1);
        due("22 load 2 ahead", Kit.ring("sl2;k;k;k").bears(2, 0), 0);
    }

    private static void p23Spare() {
        due("23 all but the last", Kit.ring("sl24;k;k;k").spare(), 3);
        due("23 the strong one stays", Kit.ring("sl24;k;ks23;ks23").spare(), 6);
        due("23 by none", Kit.ring("sl24;ks2;ks2;ks2").spare(), NONE);
        // two must stay: each alone would bear 24
        due("23 two stay", Kit.ring("sl24;ks20;ks20;ks20").spare(), 1);
        due("23 none may", Kit.ring("sl24;ks12;ks12;ks12").spare(), 0);
        // the weak one must be off, then two bear 18 at most
        due("23 the weak one", Kit.ring("sl24;ks20;ks3;ks20").spare(), 2);
        due("23 the bottom at 0, too", Kit.ring("sl20;ks9;ks10;ks10;ks10").spare(), NONE);
        due("23 the bottom at the last, too", Kit.ring("sl20;ks10;ks10;ks10;ks9").spare(), NONE);
        SpokeRing x = Kit.ring("sl0;k;k;k");
        x.away(2);
        due("23 those that are on", x.spare(), 1);
        x.away(1);
        due("23 one", x.spare(), 0);
        x.away(0);
        due("23 none is on", x.spare(), NONE);
    }

    private static void p24Plan() {
        // views never change: done wherever 0 or 2 is down
        SpokeRing x = Kit.ring("sl0;kv9o9;kv0o9;kv9o9");
        due("24 a turn", x.plan(1, 0, 0), 0);
        due("24 held", x.plan(1, 1, 0), 1);
        due("24 one", x.plan(1, 1, 1), 1);
        due("24 done twice", x.plan(2, 3, 0), 11);
        due("24 done last", x.plan(2, 2, 0), 0);
        due("24 done last many", x.plan(2, 2, 1), 1);
        due("24 done first", x.plan(2, 1, 0), 10);
        due("24 not at all", x.plan(2, 0, 0), 1);
        due("24 1, 2, 3", x.plan(3, 6, 0), 0);
        due("24 1, 2, 3 many", x.plan(3, 6, 1), 2);
        due("24 eight", x.plan(8, 255, 0), 11111111);
        due("24 eight, one row", x.plan(8, 255, 1), 1);
        due("24 eight, none but the first", x.plan(8, 1, 0), 10111111);
        due("24 n below", x.plan(0, 0, 0), NONE);
        due("24 n above", x.plan(9, 0, 0), NONE);
        due("24 bits above", x.plan(2, 4, 1), NONE);
        due("24 bits below", x.plan(2, -1, 1), NONE);
        due("24 no such what", x.plan(1, 0, 2), NONE);
        due("24 what below", x.plan(1, 0, -1), NONE);
        due("24 no wheel", new SpokeRing().plan(1, 0, 1), NONE);
        SpokeRing never = Kit.ring("sl0c0;kv0;kv0;kv0");
        due("24 by none", never.plan(3, 4, 0), NONE);
        due("24 by none: 0", never.plan(3, 4, 1), 0);
        due("24 by all, without coins", never.plan(8, 0, 1), 256);
        due("24 nothing changed", never.count(6), 0);
        SpokeRing far = Kit.ring("sl0c0;k;k;k");
        for (int i = 0; i < 33; i++) {
            far.years(30, i);
        }
        far.years(9, 1);
        due("24 behind 999", far.plan(2, 3, 1), 4);
    }

    private static void p25Settled() {
        SpokeRing x = Kit.ring("sl0;kv9o0;kv0o9;kv0o9");
        // 0 goes down by one each turn in which 1 or 2 is down; 1 and 2 stay
        due("25 behind", x.settled(0), 13);
        due("25 the view", x.settled(1), 0);
        due("25 nothing changed", Kit.spoke(x, 0, 1), 9);
        due("25 so at once", Kit.ring("sl0;kv1;kv2;kv3").settled(0), 0);
        due("25 of several the least", Kit.ring("sl0;kv3;kv2;kv4").settled(1), 2);
        due("25 the most", Kit.ring("sl0;kv3;kv2;kv3").settled(1), 3);
        // two turns of three change nothing: only when 2 is down the others come nearer to 9
        SpokeRing seldom = Kit.ring("sl0;kv5o0;kv5o0;kv9o9");
        due("25 seldom", seldom.settled(0), 11);
        due("25 seldom, the view", seldom.settled(1), 9);
        seldom.turn();
        seldom.turn();
        due("25 seldom, from 6", seldom.settled(0), 9);
        due("25 never", Kit.ring("sl0;k;k;k", "y:t-t/2*2").settled(0), NONE);
        due("25 never, the view", Kit.ring("sl0;k;k;k", "y:t-t/2*2").settled(1), NONE);
        due("25 late", Kit.ring("sl0;k;k;k", "y:t<60?t-t/2*2;y:1").settled(0), 61);
        due("25 behind 99", rolled(50, "y:t>46&t<52?1;y:t-t/2*2").settled(0), 99);
        due("25 behind 99, the view", rolled(50, "y:t>46&t<52?1;y:t-t/2*2").settled(1), 1);
        due("25 behind 100", rolled(51, "y:t>48&t<54?1;y:t-t/2*2").settled(0), NONE);
        due("25 no wheel", new SpokeRing().settled(0), NONE);
        due("25 no such what", x.settled(2), NONE);
        due("25 what below", x.settled(-1), NONE);
        SpokeRing none = Kit.ring("sl0;k;k;k");
        none.away(0);
        none.away(1);
        none.away(2);
        due("25 nobody is on: behind", none.settled(0), 0);
        due("25 nobody is on", none.settled(1), NONE);
        SpokeRing some = Kit.ring("sl0;kv7;kv7;kv6;kv6");
        some.away(0);
        due("25 who are on", some.settled(1), 6);
        // only those count who are on behind the fewest: 1 breaks in the first turn
        due("25 still on behind none", Kit.ring("sl20;kv9o9;ks1v1o9;kv1o9").settled(1), 1);
    }

    /** Three spokes of one view, so many turns gone ahead of the law. */
    private static SpokeRing rolled(int turns, String law) {
        SpokeRing x = Kit.ring("sl0;k;k;k", law);
        x.law(NONE);
        for (int i = 0; i < turns; i++) {
            x.turn();
        }
        x.law(0);
        return x;
    }

    private static void p26Seen() {
        SpokeRing x = new SpokeRing();
        due("26 no wheel", x.seen(1, true), NONE);
        Kit.tell(x, 0, PLAIN);
        due("26 below", x.seen(0, true), NONE);
        due("26 above", x.seen(21, true), NONE);
        for (int i = 1; i <= 10; i++) {
            due("26 " + i, x.seen(2 * i, true), i);
        }
        due("26 there are ten", x.seen(1, true), NONE);
        due("26 ten", x.count(12), 10);
        due("26 no act", x.count(14), 0);
    }

    private static void p27Views() {
        SpokeRing x = Kit.ring("sl0;kv9o9;kv0o9;kv9o9");
        x.turn();
        x.away(1);
        due("27 all", x.views(1, NONE), 10);
        due("27 the last", x.views(1, 9), 9);
        due("27 no such", x.views(1, 10), NONE);
        x.seen(1, true);
        due("27 by him alone", x.views(1, NONE), 5);
        due("27 the first", x.views(1, 0), 5);
        due("27 the fifth", x.views(1, 4), 9);
        due("27 no sixth", x.views(1, 5), NONE);
        due("27 below", x.views(1, -2), NONE);
        due("27 another can't be it", x.views(0, NONE), 0);
        due("27 no such spoke", x.views(3, NONE), NONE);
        due("27 no such spoke below", x.views(-1, NONE), NONE);
        x.seen(4, false);
        due("27 against itself", x.views(1, NONE), 0);
        due("27 none", x.views(1, 0), NONE);
        SpokeRing y = Kit.ring("sl0;kv9o0;kv9o9;kv9o9");
        // told with v, 0 comes to 9 by one each time 1 or 2 is down
        y.seen(3, true);
        due("27 two nearer", y.views(0, NONE), 7);
        due("27 two nearer, from 3", y.views(0, 0), 3);
        y.seen(6, false);
        due("27 none is below by then", y.views(0, NONE), 0);
        SpokeRing both = Kit.ring("sl0;kv9o0;kv9o9;kv9o9");
        both.seen(6, false);
        due("27 four nearer: just from 0 not", both.views(0, NONE), 1);
        both.seen(3, false);
        due("27 all that was not so", both.views(0, NONE), 1);
        SpokeRing law = Kit.ring("sl0;kv0;kv0;kv0", "y:d");
        law.seen(2, true);
        due("27 by the law that holds", law.views(1, NONE), 5);
        law.law(NONE);
        due("27 not by another", law.views(1, NONE), 0);
        SpokeRing not = Kit.ring("sl0;kv9o9;kv0o9;kv9o9");
        not.seen(3, false);
        due("27 not done behind three", not.views(0, NONE), 5);
        due("27 not done behind three: the last", not.views(0, 4), 4);
        not.seen(6, false);
        due("27 six, too", not.views(0, NONE), 5);
        not.seen(2, true);
        due("27 another's", not.views(0, NONE), 5);
        not.seen(20, false);
        due("27 another's, not so", not.views(0, NONE), 0);
    }

    private static void p28Ask() {
        // only turns of who is down tell
        SpokeRing x = Kit.ring("sl0;kv9o9;kv0o9;kv9o9");
        due("28 when 1 is down first", x.ask(1), 1);
        due("28 when 0 is down first", x.ask(0), 3);
        due("28 when 2 is down first", x.ask(2), 2);
        due("28 above", x.ask(3), NONE);
        due("28 below", x.ask(-1), NONE);
        x.seen(1, true);
        due("28 nothing tells any more: all alike", x.ask(1), 1);
        due("28 nothing fits", x.ask(0), NONE);
        // 0 comes nearer to 9: the later the more are done
        SpokeRing y = Kit.ring("sl0;kv9o0;kv9o9;kv9o9");
        due("28 7 of 10 at 3, 9 at 6", y.ask(0), 3);
        // 0 comes nearer to 0: behind 3 turns by two: 7, 8, 9 are done; so it is less apart than at 6
        SpokeRing z = Kit.ring("sl0;kv9o0;kv0o9;kv0o9");
        due("28 3 of 10 at 3", z.ask(0), 3);
    }

    private static void p29Power() {
        due("29 three", Kit.ring("k;k;k").power(0), 2);
        due("29 four", Kit.ring("k;k;k;k").power(3), 3);
        due("29 five", Kit.ring("k;k;k;k;k").power(1), 6);
        due("29 eight", Kit.ring("k;k;k;k;k;k;k;k").power(7), 35);
        SpokeRing x = Kit.ring("k;k;k");
        x.away(1);
        due("29 two", x.power(0), 1);
        due("29 off", x.power(1), NONE);
        x.away(2);
        due("29 alone: the empty set", x.power(0), 1);
        due("29 below", x.power(-1), NONE);
        due("29 above", x.power(3), NONE);
    }

    private static void p30Often() {
        SpokeRing x = Kit.ring("sl20;k;ks1;k;k");
        due("30 n below", x.often(0, 0), NONE);
        due("30 n above", x.often(0, 100), NONE);
        due("30 no such", x.often(4, 1), NONE);
        due("30 below", x.often(-1, 1), NONE);
        due("30 broken as it is down", x.often(1, 99), 0);
        due("30 the next", x.often(2, 2), 1);
        due("30 in one", x.often(2, 1), 0);
        due("30 not yet", x.often(0, 3), 0);
        due("30 once", x.often(0, 4), 1);
        due("30 99", x.often(0, 99), 24);
        due("30 of 99", x.often(3, 99), 25);
        x.away(2);
        due("30 off", x.often(2, 99), 0);
    }

    private static void p31First() {
        SpokeRing x = Kit.ring("sl20;ks9;k;k;k");
        // 0 bears 10 when the bottom is there: behind four turns
        due("31 the fourth", x.first(0), 4);
        due("31 never", x.first(1), NONE);
        due("31 no such", x.first(4), NONE);
        due("31 below", x.first(-1), NONE);
        x.away(0);
        due("31 off", x.first(0), NONE);
        x.away(0);
        for (int i = 0; i < 4; i++) {
            x.turn();
        }
        due("31 broken already", x.first(0), NONE);
        // ones that break ahead of him make him bear more
        due("31 by others", Kit.ring("sl20;ks19;ks1;ks1;ks14").first(3), 2);
    }

    private static void p32Game() {
        SpokeRing x = Kit.ring("sl8;ks9;ks5;k;k");
        due("32 on, on", x.game(0, 1, 0, 0, 0), 5);
        due("32 on, on: the other", x.game(0, 1, 0, 0, 1), 3);
        due("32 off, on: the other", x.game(0, 1, 1, 0, 1), 0);
        due("32 off", x.game(0, 1, 1, 0, 0), 5);
        due("32 on, off: the other", x.game(0, 1, 0, 1, 1), 5);
        due("32 the other way round", x.game(1, 0, 0, 1, 0), 0);
        due("32 the other is off", Kit.ring("sl8;ks9;ks5;ks6;k").game(2, 1, 0, 1, 0), 4);
        due("32 the other is on", Kit.ring("sl8;ks9;ks5;ks6;k").game(2, 1, 0, 0, 0), 6);
        due("32 at most 20", x.game(2, 3, 0, 0, 0), 20);
        due("32 20 less", x.game(3, 2, 0, 0, 0), 20);
        due("32 never below 0", Kit.ring("sl99;ks1;k;k").game(0, 1, 0, 0, 0), 0);
        due("32 alike", x.game(0, 0, 0, 0, 0), HIDDEN);
        due("32 above", x.game(0, 4, 0, 0, 0), HIDDEN);
        due("32 below", x.game(-1, 1, 0, 0, 0), HIDDEN);
        due("32 x", x.game(0, 1, 2, 0, 0), HIDDEN);
        due("32 x below", x.game(0, 1, -1, 0, 0), HIDDEN);
        due("32 y", x.game(0, 1, 0, 2, 0), HIDDEN);
        due("32 y below", x.game(0, 1, 0, -1, 0), HIDDEN);
        due("32 what", x.game(0, 1, 0, 0, 2), HIDDEN);
        due("32 what below", x.game(0, 1, 0, 0, -1), HIDDEN);
        x.away(2);
        due("32 not on", x.game(0, 2, 0, 0, 0), HIDDEN);
        due("32 not on, first", x.game(2, 0, 0, 0, 0), HIDDEN);
    }

    private static void p33Rests() {
        SpokeRing x = Kit.ring("sl8;ks9;ks5;k;k");
        due("33 two", x.rests(0, 1, NONE), 2);
        due("33 0 on, 1 off", x.rests(0, 1, 0), 1);
        due("33 both off", x.rests(0, 1, 1), 11);
        due("33 no third", x.rests(0, 1, 2), NONE);
        due("33 below", x.rests(0, 1, -2), NONE);
        due("33 turned round", x.rests(1, 0, 0), 10);
        due("33 both on", Kit.ring("sl0;ks9;ks9;ks9").rests(0, 1, 0), 0);
        due("33 both on, alone", Kit.ring("sl0;ks9;ks9;ks9").rests(0, 1, NONE), 1);
        due("33 all alike", Kit.ring("sl0;ks5;ks5;ks9").rests(0, 1, NONE), 4);
        due("33 the third", Kit.ring("sl0;ks5;ks5;ks9").rests(0, 1, 2), 10);
        due("33 alike", x.rests(0, 0, NONE), NONE);
        due("33 no such", x.rests(0, 4, NONE), NONE);
        due("33 no such below", x.rests(-1, 0, NONE), NONE);
        x.away(3);
        due("33 not on", x.rests(0, 3, NONE), NONE);
    }

    private static void p34Odds() {
        SpokeRing x = Kit.ring("k;k;k;k");
        due("34 none", x.odds(0, 0, 50), 1000000000);
        due("34 none elsewhere", x.odds(1, 0, 50), 0);
        due("34 held", x.odds(0, 1, 30), 300000000);
        due("34 turned", x.odds(1, 1, 30), 700000000);
        due("34 two ways", x.odds(1, 2, 30), 420000000);
        due("34 two turns", x.odds(2, 2, 30), 490000000);
        due("34 always held", x.odds(0, 8, 100), 1000000000);
        due("34 never held", x.odds(0, 8, 0), 1000000000);
        due("34 never held elsewhere", x.odds(1, 8, 0), 0);
        // 8 of 8 held: 1 of 100 each time, cut
        due("34 cut", x.odds(0, 4, 1), 960596010 + 10);
        int sum = 0;
        for (int i = 0; i < 4; i++) {
            sum += x.odds(i, 8, 37);
        }
        due("34 all parts", sum, 1000000000);
        due("34 no such", x.odds(4, 1, 1), NONE);
        due("34 below", x.odds(-1, 1, 1), NONE);
        due("34 n", x.odds(0, 9, 1), NONE);
        due("34 n below", x.odds(0, -1, 1), NONE);
        due("34 chance", x.odds(0, 1, 101), NONE);
        due("34 chance below", x.odds(0, 1, -1), NONE);
        x.turn();
        due("34 from where the bottom is", x.odds(1, 0, 1), 1000000000);
        due("34 no wheel", new SpokeRing().odds(0, 0, 0), NONE);
    }

    private static void p35Shares() {
        SpokeRing x = Kit.ring("sl24;ks30;ks30;ks30");
        due("35 a third, cut", x.shares(0, 100), 33);
        due("35 none", x.shares(0, 0), 0);
        due("35 999", x.shares(2, 999), 333);
        due("35 above", x.shares(0, 1000), NONE);
        due("35 below", x.shares(0, -1), NONE);
        due("35 no such", x.shares(3, 1), NONE);
        due("35 no such below", x.shares(-1, 1), NONE);
        x.away(0);
        due("35 off", x.shares(0, 100), 0);
        due("35 of two", x.shares(1, 101), 50);
        x.away(1);
        x.away(2);
        due("35 nobody", x.shares(2, 100), 0);
        due("35 by strength", Kit.ring("ks1;ks2;ks7").shares(2, 99), 69);
    }

    private static void p36All() {
        SpokeRing x = Kit.ring("sl20;ks20v1o3;ks30v7o9;ks30v7o9;ks9v1o0;ks12v5o1");
        Kit.all("36", x, 1, 1, 1, 0, 31, 0, 0, 3, 1, 6, 4, 0);
        due("36 above", x.all(12), NONE);
        due("36 below", x.all(-1), NONE);
        x.away(1);
        // place 0: 10, place 1 goes on to 2: 5, place 4: 5
        Kit.all("36 one off", x, 1, 1, 1, 0, 29, 2, 0, 2, 0, 6, 4, 0);
        x.turn();
        x.turn();
        due("36 next breaks", x.all(11), 8);
        x.turn();
        Kit.all("36 one broken", x, 1, 1, 1, 0, 21, 2, 8, 2, 0, 5, 4, 16);
        due("36 tight 0", Kit.ring("sl8;ks9;ks8;k").all(10), 0);
        due("36 tight, alike: the lowest", Kit.ring("sl8;ks9;ks7;k").all(10), 0);
        due("36 tight, overloaded", Kit.ring("sl8;ks9;k;ks1").all(10), 2);
        due("36 apart 0", Kit.ring("kv0;kv0;kv0").all(9), 0);
        due("36 all 9", Kit.ring("kv9;kv9;kv9").all(9), 0);
        due("36 apart 9", Kit.ring("kv9;kv0;kv5").all(9), 9);
        due("36 alike: the lowest", Kit.ring("ks5v1o3;ks5v1o3;ks5v1o3").all(0), 0);
        due("36 three of five", Kit.ring("sl0a1;kv5o9;kv5o9;kv5o9;kv4o9;kv0o9").all(8), 1);
        due("36 two of four", Kit.ring("sl0a1;kv5o9;kv5o9;kv4o9;kv0o9").all(8), 0);
        SpokeRing none = Kit.ring("sl99;ks1v9;ks1v2;ks1v4");
        none.turn();
        Kit.all("36 none on", none, 0, 0, 0, 1, 0, 0, 7, 0, 0, 0, NONE, 0);
    }

    private static void p37Image() {
        SpokeRing x = Kit.ring(PLAIN);
        due("37 turn 0", x.image(), 0);
        x.turn();
        due("37 turn 1, instead", x.image(), 1);
        x.turn();
        due("37 no act", x.count(14), 2);
        due("37 the later one", x.back(), 1);
    }

    private static void p38Back() {
        SpokeRing x = Kit.ring("sl20w1;ks4v9;ks9v1;ks30v6;k");
        due("38 no image", x.back(), NONE);
        x.turn();
        x.away(2);
        x.seen(1, true);
        x.image();
        int[] before = new int[16];
        for (int i = 0; i < 16; i++) {
            before[i] = x.count(i);
        }
        int[] views = {x.spoke(0, 1), x.spoke(1, 1), x.spoke(2, 1), x.spoke(3, 1)};
        x.seen(2, true);
        x.wet(9);
        x.vote(true);
        x.mend(0);
        x.hold();
        x.away(2);
        x.turn();
        due("38 back", x.back(), 1);
        for (int i = 0; i < 16; i++) {
            int want = i == 12 ? 2 : i == 14 ? 0 : before[i];
            due("38 count(" + i + ")", x.count(i), want);
        }
        Kit.views("38", x, views);
        due("38 off", x.all(5), 4);
        due("38 broken", x.all(6), 3);
        due("38 log", x.log(0, 2), 3);
        due("38 no older log", x.log(1, 2), NONE);
        due("38 nothing to undo", x.undo(), NONE);
        x.turn();
        due("38 again", x.back(), 1);
        due("38 not of this wheel", Kit.tell(x, 0, PLAIN), 3);
        due("38 none of this wheel", x.back(), NONE);
    }

    private static void p39Count() {
        SpokeRing x = Kit.ring("sl7w8c9a1;kv9;kv9;kv9;kv9", "y:v");
        Kit.tell(x, 2, "t");
        x.turn();
        x.seen(3, false);
        x.slip(4);
        Kit.type(x, "xyz");
        int[] want = {4, 7, 1, 1, 3, 0, 1, 10, 8, 1, 1, 4, 1, 1, 1, 1};
        for (int i = 0; i < want.length; i++) {
            due("39 count(" + i + ")", x.count(i), want[i]);
        }
        due("39 above", x.count(16), HIDDEN);
        due("39 below", x.count(-1), HIDDEN);
    }
}
