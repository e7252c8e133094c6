/** Terms 1 and the promises of texts (1 to 5, 7, 19): a test for each sentence that names a boundary. */
public final class TextEdgeTest {
    private static final int NONE = SpokeRing.NONE;
    private static final int HIDDEN = SpokeRing.HIDDEN;

    public static void main(String[] args) {
        rulesOnce();
        threeToEightSpokes();
        itemsOnce();
        numbersOfOneOrTwoDigits();
        boundsOfItems();
        usualItems();
        lawsOfOneClause();
        clausesOfLaws();
        conditionsOfLaws();
        clausesThatHaveConditions();
        numbersOfLaws();
        sixWithinOneAnother();
        reckonedWithin();
        cutTowardsZero();
        worthWithout();
        stepsOneToSixteen();
        digitsOfSteps();
        blanks();
        endsTooEarly();
        noFaultOfSteps();
        p01NoWheel();
        p02TwentyBytes();
        p02LeftOut();
        p02MoreThan240();
        p03FirstBytes();
        p03False();
        p04Sorts();
        p04Fresh();
        p05Empty();
        p05Another();
        p05Numbers();
        p05None();
        p05FourOfEach();
        p07Holds();
        p07False();
        p19Digit();
        p19Hidden();
        Kit.end("TextEdgeTest");
    }

    private static void due(String what, long got, long want) {
        Kit.due(what, got, want);
    }

    private static void due(String what, boolean got, boolean want) {
        Kit.due(what, got, want);
    }

    private static String times(int n, String clause) {
        StringBuilder text = new StringBuilder();
        for (int i = 0; i < n; i++) {
            text.append(i > 0 ? ";" : "").append(clause);
        }
        return text.toString();
    }

    // ---- Terms 1: wheels ----

    private static void rulesOnce() {
        Kit.says("Terms 1", "s (its RULES; one at most) .. in any order; a second s");
        Kit.fault(0, "k;k;k", NONE);
        Kit.fault(0, "s;k;k;k", NONE);
        Kit.fault(0, "k;s;k;k", NONE);
        Kit.fault(0, "k;k;k;s", NONE);
        Kit.fault(0, "s;s;k;k;k", 2);
        Kit.fault(0, "s;k;k;k;s", 8);
        Kit.fault(0, "k;k;k;s; s", 9);
        Kit.fault(0, "k;k;k;sl1;sl1", 10);
        Kit.fault(0, "ss", 1);
    }

    private static void threeToEightSpokes() {
        Kit.says("Terms 1", "k (a SPOKE; 3 .. 8); a ninth k");
        Kit.fault(0, "k", 1);
        Kit.fault(0, times(2, "k"), 3);
        for (int n = 3; n <= 8; n++) {
            Kit.fault(0, times(n, "k"), NONE);
            Kit.fault(0, times(n, "k") + ";s", NONE);
            due("spokes", Kit.tell(new SpokeRing(), 0, times(n, "k")), n);
        }
        Kit.fault(0, times(9, "k"), 16);
        Kit.fault(0, "s;" + times(9, "k"), 18);
        Kit.fault(0, times(8, "k") + ";s;k", 18);
        Kit.fault(0, times(8, "k") + "; k", 17);
        Kit.fault(0, times(8, "ks1") + ";ks1", 32);
    }

    private static void itemsOnce() {
        Kit.says("Terms 1", "ITEMS, none or more: a letter, each once at most in a CLAUSE; a letter that was there");
        for (String letter : new String[] {"l", "w", "c", "a"}) {
            Kit.fault(0, "s" + letter + "1;k;k;k", NONE);
            Kit.fault(0, "s" + letter + "1" + letter + "1;k;k;k", 3);
            Kit.fault(0, "s" + letter + "1 " + letter, 4);
        }
        for (String letter : new String[] {"s", "v", "o"}) {
            Kit.fault(0, "k" + letter + "1;k;k", NONE);
            Kit.fault(0, "k" + letter + "1" + letter + "1;k;k", 3);
            Kit.fault(0, "k" + letter + "1;k" + letter + "1;k" + letter + "1", NONE);
        }
        Kit.fault(0, "sl1w1c1a1;k;k;k", NONE);
        Kit.fault(0, "sa1c1w1l1;k;k;k", NONE);
        Kit.fault(0, "sl1w1c1a1l1", 9);
        Kit.fault(0, "sl1w1c1a1a1", 9);
        Kit.fault(0, "sl1w1c1l1", 7);
        Kit.fault(0, "ko1v1s1;k;k", NONE);
        Kit.fault(0, "ko1v1s1v1", 7);
        Kit.fault(0, "ko1v1o1", 5);
    }

    private static void numbersOfOneOrTwoDigits() {
        Kit.says("Terms 1", "a number (one or two digits); a third digit (whatever stands ahead of it) itself");
        Kit.fault(0, "s l", 3);
        Kit.fault(0, "slx", 2);
        Kit.fault(0, "sl;k;k;k", 2);
        Kit.fault(0, "sl1;k;k;k", NONE);
        Kit.fault(0, "sl01;k;k;k", NONE);
        Kit.fault(0, "sl001;k;k;k", 4);
        Kit.fault(0, "sl000;k;k;k", 4);
        Kit.fault(0, "sl999;k;k;k", 4);
        Kit.fault(0, "sl1000;k;k;k", 4);
        // the third one, though the two ahead of it are out of bounds already
        Kit.fault(0, "sw999;k;k;k", 4);
        Kit.fault(0, "sa200;k;k;k", 4);
        Kit.fault(0, "ks000;k;k", 4);
        Kit.fault(0, "k;kv123;k", 6);
        Kit.fault(0, "k;ko001;k", 6);
        Kit.fault(0, "k;k;ks100", 8);
    }

    private static void bound(String clause, int least, int most) {
        String head = clause + most;
        int at = clause.length();
        String rest = ";k;k;k";
        Kit.fault(0, head + rest, NONE);
        Kit.fault(0, clause + least + rest, NONE);
        if (most < 10) {
            Kit.fault(0, clause + "0" + most + rest, NONE);
            Kit.fault(0, clause + (most + 1) + rest, at + (most < 9 ? 0 : 1));
            Kit.fault(0, clause + "99" + rest, at + 1);
            Kit.fault(0, clause + "10" + rest, at + 1);
        } else {
            Kit.fault(0, clause + "100" + rest, at + 2);
        }
        if (least > 0) {
            Kit.fault(0, clause + (least - 1) + rest, at);
            Kit.fault(0, clause + "0" + (least - 1) + rest, at + 1);
        } else {
            Kit.fault(0, clause + "00" + rest, NONE);
        }
    }

    private static void boundsOfItems() {
        Kit.says("Terms 1", "l the LOAD (0 .. 99), w how WET (0 .. 9), c COINS (0 .. 99), a whether ALL vote (0, 1); "
                + "s STRENGTH (1 .. 99), v VIEW (0 .. 9), o how OBSTINATE (0 .. 9); "
                + "a number out of bounds is wrong at its last digit");
        bound("sl", 0, 99);
        bound("sw", 0, 9);
        bound("sc", 0, 99);
        bound("sa", 0, 1);
        bound("ks", 1, 99);
        bound("kv", 0, 9);
        bound("ko", 0, 9);
        Kit.fault(0, "sa2", 2);
        Kit.fault(0, "sa12", 3);
        Kit.fault(0, "sa02", 3);
        Kit.fault(0, "ks0", 2);
        Kit.fault(0, "k;k;ks00", 7);
        Kit.fault(0, "k;k;kv10", 7);
        SpokeRing least = Kit.ring("sl0w0c0a0;ks1v0o0;k;k");
        items("least", least, 0, 0, 0, 0, 1, 0, 0);
        SpokeRing most = Kit.ring("sl99w9c99a1;ks99v9o9;k;k");
        items("most", most, 99, 9, 99, 1, 99, 9, 9);
    }

    private static void items(String what, SpokeRing x, int load, int wet, int coins, int all, int s, int v, int o) {
        due(what + ": load", x.count(1), load);
        due(what + ": wet", x.count(8), wet);
        due(what + ": coins", x.count(7), coins);
        due(what + ": all vote", x.count(9), all);
        due(what + ": strength", Kit.spoke(x, 0, 0), s);
        due(what + ": view", Kit.spoke(x, 0, 1), v);
        due(what + ": obstinate", Kit.spoke(x, 0, 2), o);
    }

    private static void usualItems() {
        Kit.says("Terms 1", "(24 without), (3), (20), (0), (30), (5), (2)");
        items("no rules", Kit.ring("k;k;k"), 24, 3, 20, 0, 30, 5, 2);
        items("bare rules", Kit.ring("s;k;k;k"), 24, 3, 20, 0, 30, 5, 2);
        items("a load", Kit.ring("sl7;ks7;k;k"), 7, 3, 20, 0, 7, 5, 2);
        items("wet", Kit.ring("sw7;kv7;k;k"), 24, 7, 20, 0, 30, 7, 2);
        items("coins", Kit.ring("sc7;ko7;k;k"), 24, 3, 7, 0, 30, 5, 7);
        items("all", Kit.ring("sa1;k;k;k"), 24, 3, 20, 1, 30, 5, 2);
        // neither an earlier text's nor an earlier clause's numbers stay
        SpokeRing x = Kit.ring("sl1w1c1a1;ks1v1o1;ks1v1o1;ks1v1o1");
        Kit.tell(x, 0, "k;ks9v9o9;k");
        items("behind another one", x, 24, 3, 20, 0, 30, 5, 2);
        due("behind a clause with all", Kit.spoke(x, 2, 0), 30);
        due("behind a clause with all: view", Kit.spoke(x, 2, 1), 5);
        due("behind a clause with all: obstinate", Kit.spoke(x, 2, 2), 2);
        Kit.tell(x, 0, "sl1w1c1a1;k;k;kx");
        Kit.tell(x, 0, "k;k;k");
        items("behind a fault", x, 24, 3, 20, 0, 30, 5, 2);
    }

    // ---- Terms 1: laws ----

    private static void lawsOfOneClause() {
        Kit.says("Terms 1", "LAWS .. are TEXTS: CLAUSES with ; between, one at least");
        Kit.fault(1, "", 0);
        Kit.fault(1, ";", 0);
        Kit.fault(1, "y:1", NONE);
        Kit.fault(1, "y:1;", 4);
        Kit.fault(1, "y:1;;y:1", 4);
        Kit.fault(1, "y:1;y:2", NONE);
        Kit.fault(1, times(60, "y:1"), NONE);
        Kit.fault(1, times(59, "y:1") + ";y:1;", 240);
    }

    private static void clausesOfLaws() {
        Kit.says("Terms 1", "y, : , perhaps CONDITION ?, then SUM");
        Kit.fault(1, "y", 1);
        Kit.fault(1, ":", 0);
        Kit.fault(1, "yy", 1);
        Kit.fault(1, "y:", 2);
        Kit.fault(1, "y:?1", 2);
        Kit.fault(1, "y:1?", 3);
        Kit.fault(1, "y:1?1", 3);
        Kit.fault(1, "y:1=1", 5);
        Kit.fault(1, "y:1=1?", 6);
        Kit.fault(1, "y:1=1?1", NONE);
        Kit.fault(1, "y:1=1?1=1", 7);
        Kit.fault(1, "y:1=1?1?1", 7);
        Kit.fault(1, "y:1=1?(1=1)", 6);
        Kit.fault(1, "y:1=1?!1=1", 6);
        // without y, without : , though a SUM or a CONDITION would follow
        for (String rest : new String[] {"5", "v", "[v]", "v=1?2", "(v=1)?2", "!v=1?2"}) {
            Kit.fault(1, rest, 0);
            Kit.fault(1, ":" + rest, 0);
            Kit.fault(1, "y" + rest, 1);
            Kit.fault(1, "y:1;" + rest, 4);
            Kit.fault(1, "y:1;:" + rest, 4);
            Kit.fault(1, "y:1;y" + rest, 5);
            Kit.fault(1, "y:1;y:" + rest, NONE);
        }
    }

    private static void conditionsOfLaws() {
        Kit.says("Terms 1", "TRUTHS with | between; UNITS with & between; UNIT: ! UNIT, ( CONDITION ), or SUM, one of = < >, SUM; "
                + "TERMS with + or - between; ATOMS with * or / between; ATOM: a number, a letter (v d o h w t), [ SUM ]");
        for (String sign : new String[] {"|", "&"}) {
            Kit.fault(1, "y:1=1" + sign + "1=1?1", NONE);
            Kit.fault(1, "y:1=1" + sign, 6);
            Kit.fault(1, "y:1=1" + sign + "?", 6);
            Kit.fault(1, "y:" + sign + "1=1?1", 2);
            Kit.fault(1, "y:1=1" + sign + "1?1", 7);
            Kit.fault(1, "y:1" + sign + "1=1?1", 3);
        }
        for (String sign : new String[] {"=", "<", ">"}) {
            Kit.fault(1, "y:v" + sign + "d?1", NONE);
            Kit.fault(1, "y:v" + sign, 4);
            Kit.fault(1, "y:" + sign + "d?1", 2);
            Kit.fault(1, "y:v" + sign + sign + "d?1", 4);
            Kit.fault(1, "y:v" + sign + "d" + sign + "d?1", 5);
            Kit.fault(1, "y:[v" + sign + "d]", 4);
        }
        for (String sign : new String[] {"+", "-", "*", "/"}) {
            Kit.fault(1, "y:v" + sign + "d", NONE);
            Kit.fault(1, "y:v" + sign, 4);
            Kit.fault(1, "y:" + sign + "d", 2);
            Kit.fault(1, "y:v" + sign + sign + "d", 4);
            Kit.fault(1, "y:[v" + sign + "]", 5);
        }
        for (String letter : new String[] {"v", "d", "o", "h", "w", "t"}) {
            Kit.fault(1, "y:" + letter, NONE);
            Kit.fault(1, "y:" + letter + letter, 3);
        }
        for (String letter : new String[] {"s", "k", "l", "c", "a", "y", "V", "x"}) {
            Kit.fault(1, "y:" + letter, 2);
        }
        Kit.fault(1, "y:[]", 3);
        Kit.fault(1, "y:[1", 4);
        Kit.fault(1, "y:1]", 3);
        Kit.fault(1, "y:(1=1?1", 6);
        Kit.fault(1, "y:(1=1))?1", 7);
        Kit.fault(1, "y:((1=1)|1=1)?1", NONE);
        Kit.fault(1, "y:(1=1)&(1=1)?1", NONE);
        Kit.fault(1, "y:(1)=1?1", 4);
        Kit.fault(1, "y:(1=1)=1?1", 7);
        Kit.fault(1, "y:[1]=[1]?[1]", NONE);
        // what is wrong within ( [ or behind = stays wrong, though it could stand outside
        Kit.fault(1, "y:(v=?1", 5);
        Kit.fault(1, "y:(1=1|?1", 7);
        Kit.fault(1, "y:(?1", 3);
        Kit.fault(1, "y:(|1=1?1", 3);
        Kit.fault(1, "y:(&1=1?1", 3);
        Kit.fault(1, "y:v=?1", 4);
        Kit.fault(1, "y:v=&d=1?1", 4);
        Kit.fault(1, "y:v=|d=1?1", 4);
        Kit.fault(1, "y:v<;y:1", 4);
        Kit.fault(1, "y:[+1", 3);
        Kit.fault(1, "y:[*1", 3);
        Kit.fault(1, "y:[=1?1", 3);
        Kit.fault(1, "y:[;y:1", 3);
        Kit.fault(1, "y:!?1", 3);
        Kit.fault(1, "y:!&1=1?1", 3);
        Kit.fault(1, "y:1=1?;y:1", 6);
        // and what each of them tells
        worth("y:v", 4);
        worth("y:d", 7);
        worth("y:o", 1);
        worth("y:h+3", 4);
        worth("y:w", 6);
        worth("y:t+2", 2);
        worth("y:v=4|v=5?8;y:2", 8);
        worth("y:v=5|v=4?8;y:2", 8);
        worth("y:v=5|v=6?8;y:2", 2);
        worth("y:v=4&d=7?8;y:2", 8);
        worth("y:v=4&d=6?8;y:2", 2);
        worth("y:v=5&d=7?8;y:2", 2);
        worth("y:v=4|v=5&d=6?8;y:2", 8);
        worth("y:(v=4|v=5)&d=6?8;y:2", 2);
        worth("y:d=6&v=5|v=4?8;y:2", 8);
        worth("y:!v=4?8;y:2", 2);
        worth("y:!v=5?8;y:2", 8);
        worth("y:!(v=4&d=6)?8;y:2", 8);
        worth("y:!v=5&d=6?8;y:2", 2);
        worth("y:d=7&!v=5?8;y:2", 8);
        worth("y:d=6&!v=5?8;y:2", 2);
        worth("y:d=6|!v=5?8;y:2", 8);
        worth("y:d=6|!!v=5?8;y:2", 2);
        worth("y:d=7&!(v=5|!v=4)&!o=0?8;y:2", 8);
        worth("y:v<4?8;y:2", 2);
        worth("y:v<5?8;y:2", 8);
        worth("y:v>4?8;y:2", 2);
        worth("y:v>3?8;y:2", 8);
        worth("y:9-4-3", 2);
        worth("y:9-2*3", 3);
        worth("y:[9-7]*3", 6);
        worth("y:8/2*3-4", 8);
    }

    private static void clausesThatHaveConditions() {
        Kit.says("Terms 1", "A CLAUSE that goes on with ! or ( behind its : has a CONDITION");
        Kit.fault(1, "y:!1", 4);
        Kit.fault(1, "y:!1;", 4);
        Kit.fault(1, "y:!1=1", 6);
        Kit.fault(1, "y:!1=1;", 6);
        Kit.fault(1, "y:!1=1?1", NONE);
        Kit.fault(1, "y:(1=1)", 7);
        Kit.fault(1, "y:(1=1);", 7);
        Kit.fault(1, "y:(1=1)?1", NONE);
        Kit.fault(1, "y:(1+1)*2", 6);
        Kit.fault(1, "y: ( 1 = 1 ) ? 1", NONE);
    }

    private static void numbersOfLaws() {
        Kit.says("Terms 1", "a number (1 to 4 digits); a fifth one in a LAW itself");
        Kit.fault(1, "y:0", NONE);
        Kit.fault(1, "y:00", NONE);
        Kit.fault(1, "y:000", NONE);
        Kit.fault(1, "y:0000", NONE);
        Kit.fault(1, "y:9999", NONE);
        Kit.fault(1, "y:00000", 6);
        Kit.fault(1, "y:10000", 6);
        Kit.fault(1, "y:99999", 6);
        Kit.fault(1, "y:1+100000", 8);
        Kit.fault(1, "y:1=00001?1", 8);
        worth("y:9999/1111", 9);
        worth("y:0009", 9);
        worth("y:0000", 0);
        // each number stands for itself, those by which signs are told, too
        for (int n = 5; n <= 9999; n = n < 300 ? n + 1 : n * 2 - 1) {
            worth("y:" + n + "-" + (n - 5), 5);
        }
        worth("y:9999-9994", 5);
    }

    private static String nested(int n, String open, String inner, String close) {
        StringBuilder text = new StringBuilder();
        for (int i = 0; i < n; i++) {
            text.append(open);
        }
        text.append(inner);
        for (int i = 0; i < n; i++) {
            text.append(close);
        }
        return text.toString();
    }

    private static void sixWithinOneAnother() {
        Kit.says("Terms 1", "At most six of ( [ ! within one another; a seventh of ( [ ! in a LAW at it");
        Kit.fault(1, "y:" + nested(6, "[", "1", "]"), NONE);
        Kit.fault(1, "y:" + nested(7, "[", "1", "]"), 8);
        Kit.fault(1, "y:" + nested(6, "(", "1=1", ")") + "?1", NONE);
        Kit.fault(1, "y:" + nested(7, "(", "1=1", ")") + "?1", 8);
        Kit.fault(1, "y:" + nested(6, "!", "1=1", "") + "?1", NONE);
        Kit.fault(1, "y:" + nested(7, "!", "1=1", "") + "?1", 8);
        // of different kinds
        Kit.fault(1, "y:!(!([[1]]=1))?1", NONE);
        Kit.fault(1, "y:!(!([[[1]]]=1))?1", 8);
        Kit.fault(1, "y:!(!(!(1=1)))?1", NONE);
        Kit.fault(1, "y:!(!(!([1]=1)))?1", 8);
        Kit.fault(1, "y:!(!(!(!1=1)))?1", 8);
        Kit.fault(1, "y:!(!(!((1=1))))?1", 8);
        Kit.fault(1, "y:!!!!!(1=1)?1", NONE);
        Kit.fault(1, "y:!!!!![1]=1?1", NONE);
        Kit.fault(1, "y:!!!!!1=[1]?1", NONE);
        Kit.fault(1, "y:!!!!!!1=[1]?1", 10);
        Kit.fault(1, "y:!!!!!!1=1+[1]?1", 12);
        Kit.fault(1, "y:!!!!!!1=1*[1]?1", 12);
        Kit.fault(1, "y:(((!!!1=1)))?1", NONE);
        Kit.fault(1, "y:(((!!!!1=1)))?1", 8);
        Kit.fault(1, "y:((((!!!(1=1", 8);
        Kit.fault(1, "y:((!!!!(1=1", 8);
        Kit.fault(1, "y:(((((!![1", 8);
        Kit.fault(1, "y:(((((![1", 8);
        Kit.fault(1, "y:(((((!1=[1", 10);
        // beside one another they do not count
        Kit.fault(1, "y:" + nested(6, "[", "1", "]") + "+" + nested(6, "[", "1", "]"), NONE);
        Kit.fault(1, "y:1+" + nested(7, "[", "1", "]"), 10);
        Kit.fault(1, "y:!!!1=1&!!!!!!1=1|!!!!!!1=1?" + nested(6, "[", "1", "]"), NONE);
        Kit.fault(1, "y:!!!1=1&!!!!!!!1=1?1", 15);
        Kit.fault(1, "y:(!1=1)&((((((1=1))))))?1", NONE);
        Kit.fault(1, "y:1=1?" + nested(7, "[", "1", "]"), 12);
        worth("y:" + nested(6, "!", "v=4", "") + "?8;y:2", 8);
        worth("y:" + nested(5, "!", "v=4", "") + "?8;y:2", 2);
        worth("y:" + nested(6, "(", "v=4", ")") + "?8;y:2", 8);
        worth("y:!(!(!(v=4)))?8;y:2", 2);
        worth("y:1+[1+[1+[1+[1+[1+[1]]]]]]", 7);
        worth("y:9-[9-[9-[9-[9-[9-[4]]]]]]", 4);
        Kit.fault(1, "y:1;y:" + nested(6, "[", "1", "]") + ";y:" + nested(7, "[", "1", "]"), 28);
    }

    /** The view that spoke 0 (view 4, obstinate 1, spoke 1 down with view 7) has by a law. */
    private static void worth(String law, int want) {
        SpokeRing x = Kit.ring("sw6;kv4o1;kv7o8;k;k;k", law);
        x.turn();
        due("by " + law, Kit.spoke(x, 0, 1), want);
    }

    private static void reckonedWithin() {
        Kit.says("Terms 1", "Behind each sign numbers are within -1,000,000 .. 1,000,000");
        // 1,000,000 as 1000 * 1000 stands, one more does not
        worth("y:1000*1000-9999*100-93", 7);
        worth("y:1000*1000+1-9999*100-93", 7);
        worth("y:1000*1000+9-9999*100-93", 7);
        worth("y:9999*9999-9999*100-93", 7);
        worth("y:1000*1000=1000*1000+1?3;y:8", 3);
        worth("y:1000*1000-1=1000*1000?3;y:8", 8);
        worth("y:0-1000*1000+9999*100+107", 7);
        worth("y:0-1000*1000-1+9999*100+107", 7);
        worth("y:0-1000*1000=0-1000*1000-1?3;y:8", 3);
        worth("y:0-1000*1000+1=0-1000*1000?3;y:8", 8);
        worth("y:[0-9999]*9999+9999*100+107", 7);
        worth("y:[0-9999]*[0-9999]-9999*100-93", 7);
        // 1,000,000 times 1,000,000 is above what an int holds
        worth("y:1000*1000*[1000*1000]-9999*100-93", 7);
        worth("y:[0-1000*1000]*[1000*1000]+9999*100+107", 7);
        worth("y:[0-1000*1000]*[0-1000*1000]-9999*100-93", 7);
        // behind each sign, not at the end alone
        worth("y:9999*9999/1000/1000+3", 4);
        worth("y:9999*100+9999-9999*100-9999", 0);
        worth("y:9999*100+9999-9999*100-93", 7);
    }

    private static void cutTowardsZero() {
        Kit.says("Terms 1", "/ cuts towards 0, by 0 gives 0");
        worth("y:7/2", 3);
        worth("y:[0-7]/2+5", 2);
        worth("y:7/[0-2]+5", 2);
        worth("y:[0-7]/[0-2]", 3);
        worth("y:[0-1]/2+5", 5);
        worth("y:1/2+5", 5);
        worth("y:5/0+7", 7);
        worth("y:5/[v-v]+7", 7);
        worth("y:0/0+7", 7);
        worth("y:[0-5]/0+7", 7);
    }

    private static void worthWithout() {
        Kit.says("Terms 1", "WORTH of a LAW: the SUM of the first CLAUSE whose CONDITION holds (or has none), 0 without");
        worth("y:v=4?8;y:v=4?7", 8);
        worth("y:v=5?8;y:v=4?7", 7);
        worth("y:v=5?8;y:v=4?7;y:6", 7);
        worth("y:v=5?8;y:6;y:v=4?7", 6);
        worth("y:3;y:4", 3);
        worth("y:v=5?8", 0);
        worth("y:v=5?8;y:v=6?7", 0);
        // as many signs as a tape can have: the last one counts, too
        StringBuilder full = new StringBuilder("y: v");
        while (full.length() < 238) {
            full.append(full.length() % 4 == 0 ? "-1" : "+1");
        }
        due("bytes", full.length() + 2, 240);
        worth(full + "+3", 6);
        StringBuilder clauses = new StringBuilder();
        for (int i = 0; i < 29; i++) {
            clauses.append("y:v=9?1;");
        }
        worth(clauses + "y:v=4?7", 7);
    }

    // ---- Terms 1: journeys ----

    private static void stepsOneToSixteen() {
        Kit.says("Terms 1", "STEPS with ; between, 1 to 16; the ; ahead of a 17th STEP");
        Kit.fault(2, "", 0);
        Kit.fault(2, ";", 0);
        Kit.fault(2, "t;", 2);
        Kit.fault(2, "t;;t", 2);
        for (int n = 1; n <= 16; n++) {
            Kit.fault(2, times(n, "t"), NONE);
            Kit.fault(2, times(n, "g1"), NONE);
        }
        Kit.fault(2, times(16, "h") + ";", 31);
        Kit.fault(2, times(17, "h"), 31);
        Kit.fault(2, times(17, "m1"), 47);
        Kit.fault(2, times(16, "h") + " ;h", 32);
        SpokeRing x = new SpokeRing();
        due("sixteen", Kit.tell(x, 2, times(15, "t") + ";m7"), 0);
        due("the sixteenth", x.step(0, 15, 1), 7);
    }

    private static void digitsOfSteps() {
        Kit.says("Terms 1", "t (a TURN), h (the wheel is HELD), g and a digit, m and a digit");
        Kit.fault(2, "t1", 1);
        Kit.fault(2, "h1", 1);
        Kit.fault(2, "g", 1);
        Kit.fault(2, "m", 1);
        Kit.fault(2, "g;", 1);
        Kit.fault(2, "mm", 1);
        Kit.fault(2, "g0", NONE);
        Kit.fault(2, "g9", NONE);
        Kit.fault(2, "m0", NONE);
        Kit.fault(2, "m9", NONE);
        Kit.fault(2, "g00", 2);
        Kit.fault(2, "m10", 2);
        Kit.fault(2, "g1;m1;x", 6);
        Kit.fault(2, "T", 0);
    }

    private static void blanks() {
        Kit.says("Terms 1", "Blanks (32) may stand between all signs of these, not within numbers");
        Kit.fault(0, "  s  l  2  w  3  ;  k  s  9  v  1  o  2  ;  k  ;  k  ", NONE);
        Kit.fault(0, "s l 2 4;k;k;k", 6);
        Kit.fault(0, "k s 1 1;k;k", 6);
        Kit.fault(1, "  y  :  v  =  1  &  !  (  d  <  2  )  ?  [  1  +  h  ]  *  2  ;  y  :  3  ", NONE);
        Kit.fault(1, "y:1 1", 4);
        Kit.fault(1, "y:1 =1 1?1", 7);
        Kit.fault(2, "  t  ;  g  1  ;  m  2  ", NONE);
        Kit.fault(2, "g1 1", 3);
        Kit.fault(2, "t\tt", 1);
        Kit.fault(0, "k\n;k;k", 1);
        Kit.fault(1, "y\u00a0:1", 1);
        SpokeRing x = Kit.ring("k;ks  17 v 3;k");
        due("a number behind blanks", Kit.spoke(x, 1, 0), 17);
        due("a letter behind blanks", Kit.spoke(x, 1, 1), 3);
    }

    private static void endsTooEarly() {
        Kit.says("Terms 1", "FAULT: .. the length, if it ends too early, with fewer than three SPOKES");
        Kit.fault(0, "", 0);
        Kit.fault(0, "    ", 4);
        Kit.fault(0, "s", 1);
        Kit.fault(0, "s ", 2);
        Kit.fault(0, "s;k;k", 5);
        Kit.fault(0, "k;k", 3);
        Kit.fault(0, "k;k  ", 5);
        Kit.fault(0, "k;k;", 4);
        Kit.fault(0, "k;k;k;", 6);
        Kit.fault(0, "k;k;k; ", 7);
        Kit.fault(0, "k;k;ks", 6);
        Kit.fault(0, times(8, "k") + ";", 16);
        Kit.fault(0, "ks1v1o1;ks1v1o1", 15);
        Kit.fault(1, " ", 1);
        Kit.fault(1, "y:1+ ", 5);
        Kit.fault(1, "y:1;y:2;", 8);
        Kit.fault(2, "  ", 2);
        Kit.fault(2, "t;h; ", 5);
        Kit.fault(2, "t;g", 3);
    }

    private static void noFaultOfSteps() {
        Kit.says("Terms 1", "What a STEP tells that is not there or can't be is no FAULT: the STEP can't be");
        SpokeRing x = Kit.ring("k;k;k");
        due("spoke 3 of three", Kit.tell(x, 2, "t;g3;t"), 0);
        due("it can't be", x.run(0, 0), 1);
        due("one that isn't broken", Kit.tell(x, 2, "m0"), 1);
        due("it can't be, either", x.run(1, 0), 0);
        SpokeRing bare = new SpokeRing();
        Kit.type(bare, "g9;m8");
        due("without a wheel", bare.fault(2), NONE);
        due("told without a wheel", bare.text(2), 0);
    }

    // ---- promises 1 to 5, 7, 19 ----

    private static void p01NoWheel() {
        Kit.says("Promise 1", "No WHEEL");
        SpokeRing x = new SpokeRing();
        Kit.refused("turn", x, () -> x.turn(), NONE);
        Kit.refused("hold", x, () -> x.hold(), NONE);
        Kit.refused("away", x, () -> x.away(0), NONE);
        Kit.refused("mend", x, () -> x.mend(0), NONE);
        Kit.refused("vote", x, () -> x.vote(true));
        Kit.refused("vote not", x, () -> x.vote(false));
        Kit.refused("wet", x, () -> x.wet(3), NONE);
        Kit.refused("wet 0", x, () -> x.wet(0), NONE);
        Kit.refused("give", x, () -> x.give(1), NONE);
        Kit.refused("years", x, () -> x.years(1, 1), NONE);
        Kit.refused("undo", x, () -> x.undo(), NONE);
        Kit.refused("log", x, () -> x.log(0, 0), NONE);
        Kit.refused("bears", x, () -> x.bears(0, 0), NONE);
        Kit.refused("spare", x, () -> x.spare(), NONE);
        Kit.refused("plan", x, () -> x.plan(1, 0, 0), NONE);
        Kit.refused("plan, how many", x, () -> x.plan(1, 0, 1), NONE);
        Kit.refused("settled", x, () -> x.settled(0), NONE);
        Kit.refused("settled, the view", x, () -> x.settled(1), NONE);
        Kit.refused("seen", x, () -> x.seen(1, true), NONE);
        Kit.refused("views", x, () -> x.views(0, NONE), NONE);
        Kit.refused("views, the first", x, () -> x.views(0, 0), NONE);
        Kit.refused("ask", x, () -> x.ask(0), NONE);
        Kit.refused("power", x, () -> x.power(0), NONE);
        Kit.refused("often", x, () -> x.often(0, 1), NONE);
        Kit.refused("first", x, () -> x.first(0), NONE);
        Kit.refused("game", x, () -> x.game(0, 1, 0, 0, 0), HIDDEN);
        Kit.refused("rests", x, () -> x.rests(0, 1, NONE), NONE);
        Kit.refused("odds", x, () -> x.odds(0, 0, 0), NONE);
        Kit.refused("shares", x, () -> x.shares(0, 0), NONE);
        Kit.refused("image", x, () -> x.image(), NONE);
        Kit.refused("back", x, () -> x.back(), NONE);
        Kit.refused("spoke", x, () -> Kit.spoke(x, 0, 0), -777);
        for (int what = 0; what <= 11; what++) {
            due("all(" + what + ")", x.all(what), NONE);
        }
        due("a law without a wheel", Kit.tell(x, 1, "y:1"), 0);
        due("it may hold", x.law(0), true);
        due("a journey without a wheel", Kit.tell(x, 2, "t;h"), 0);
        due("its step", x.step(0, 1, 0), 1);
        Kit.refused("run", x, () -> x.run(0, 0), HIDDEN);
        Kit.refused("run, how often", x, () -> x.run(0, 1), HIDDEN);
        Kit.refused("perform", x, () -> x.perform(0), NONE);
        due("slip without a wheel", x.slip(5), true);
        due("a text that fails is none", Kit.tell(x, 0, "k;k"), NONE);
        Kit.refused("still none", x, () -> x.turn(), NONE);
    }

    private static void p02TwentyBytes() {
        Kit.says("Promise 2", "Twenty bytes more come to the TAPE (of each number the highest first): how many it has");
        SpokeRing x = new SpokeRing();
        due("twenty", x.feed(0x20202020, 0x20202020, 0x20202020, 0x20202020, 0x20202020), 20);
        due("twenty more", x.feed(0x20202020, 0x20202020, 0x20202020, 0x20202020, 0x2020206B), 40);
        due("the last one is the fortieth", x.fault(1), 39);
        String text = "y:1=1?12+34-5;y:67*8";
        for (int from = 0; from < 20; from++) {
            SpokeRing y = new SpokeRing();
            String wrong = text.substring(0, from) + '#' + text.substring(from + 1);
            Kit.type(y, wrong);
            due("a # as byte " + from, y.fault(1), from);
        }
        SpokeRing z = new SpokeRing();
        due("high bits", z.feed(0x80000000, 0x00800000, 0x00008000, 0x00000080, 0xFF7F01FF), 8);
    }

    private static void p02LeftOut() {
        Kit.says("Promise 2", "bytes of 0 are left out");
        SpokeRing x = new SpokeRing();
        due("nothing", x.feed(0, 0, 0, 0, 0), 0);
        due("k;k;k", x.feed(0x6B00003B, 0x006B0000, 0x00003B00, 0, 0x0000006B), 5);
        due("they are not there", x.fault(0), NONE);
        due("a digit each side", x.end(0), true);
        x.feed(0x793A3100, 0x00000031, 0, 0, 0);
        due("two digits of one number", x.fault(1), NONE);
        due("five bytes", x.count(4), 4);
    }

    private static void p02MoreThan240() {
        Kit.says("Promise 2", "NONE: more than 240");
        SpokeRing x = new SpokeRing();
        for (int i = 1; i <= 12; i++) {
            due("feed " + i, x.feed(-1, -1, -1, -1, -1), 20 * i);
        }
        Kit.refused("20 more", x, () -> x.feed(-1, -1, -1, -1, -1), NONE);
        Kit.refused("one more", x, () -> x.feed(1, 0, 0, 0, 0), NONE);
        due("none more", x.feed(0, 0, 0, 0, 0), 240);
        x.end(221);
        Kit.refused("twenty at 221", x, () -> x.feed(-1, -1, -1, -1, -1), NONE);
        due("nineteen at 221", x.feed(-1, -1, -1, -1, 0x00FFFFFF), 240);
        x.end(239);
        Kit.refused("two at 239", x, () -> x.feed(1, 0, 0, 0, 1), NONE);
        due("one at 239", x.feed(0, 0, 1, 0, 0), 240);
        // a text of 240 bytes is read to its end
        SpokeRing y = new SpokeRing();
        StringBuilder blanks = new StringBuilder("t;h;");
        while (blanks.length() < 239) {
            blanks.append(' ');
        }
        Kit.type(y, blanks + "m");
        due("240 bytes", y.count(4), 240);
        due("too early at 240", y.fault(2), 240);
        Kit.type(y, blanks + "t");
        due("a step at the end", y.text(2), 0);
        due("three steps", y.step(0, 2, 0), 0);
    }

    private static void p03FirstBytes() {
        Kit.says("Promise 3", "The TAPE has its first n bytes alone");
        SpokeRing x = new SpokeRing();
        Kit.type(x, "t;h;g1");
        due("all of them", x.end(6), true);
        due("six", x.count(4), 6);
        due("three", x.end(3), true);
        due("too short for what was", x.end(4), false);
        Kit.type(x, "t;h;g1");
        x.end(4);
        x.feed(0x74000000, 0, 0, 0, 0);
        due("what comes then comes behind these", x.text(2), 0);
        due("its last step", x.step(0, 2, 0), 0);
        Kit.type(x, "t");
        due("none", x.end(0), true);
        due("an empty tape", x.fault(2), 0);
        due("none of none", x.end(0), true);
    }

    private static void p03False() {
        Kit.says("Promise 3", "False: n");
        SpokeRing x = new SpokeRing();
        Kit.refused("1 of none", x, () -> x.end(1));
        Kit.refused("-1 of none", x, () -> x.end(-1));
        Kit.type(x, "k;k;k");
        Kit.refused("6 of 5", x, () -> x.end(6));
        Kit.refused("-1 of 5", x, () -> x.end(-1));
        Kit.refused("far above", x, () -> x.end(Integer.MAX_VALUE));
        Kit.refused("far below", x, () -> x.end(Integer.MIN_VALUE));
        for (int i = 0; i < 11; i++) {
            x.feed(-1, -1, -1, -1, -1);
        }
        Kit.refused("240 of 225", x, () -> x.end(240));
        x.feed(-1, -1, -1, -1 << 8, 0);
        due("240 of 240", x.end(240), true);
        Kit.refused("241 of 240", x, () -> x.end(241));
    }

    private static void p04Sorts() {
        Kit.says("Promise 4", "NONE: none. -2: no such sort");
        SpokeRing x = new SpokeRing();
        for (int sort : new int[] {-1, 3, -2, 4, Integer.MAX_VALUE, Integer.MIN_VALUE}) {
            Kit.refused("sort " + sort, x, () -> x.fault(sort), -2);
        }
        Kit.type(x, "k;k;k");
        due("a wheel", x.fault(0), NONE);
        due("no law", x.fault(1), 0);
        due("no journey", x.fault(2), 0);
        due("no such sort", x.fault(3), -2);
        due("no such sort below", x.fault(-1), -2);
    }

    private static void p04Fresh() {
        Kit.says("Promise 4", "The FAULT of the TAPE (none taken by asking)");
        SpokeRing x = Kit.ring("sl1;kv1;kv1;kv1");
        Kit.type(x, "sl2w2c2;kv2;kv2;kv2;kv2");
        due("no fault", x.fault(0), NONE);
        due("the tape is as it was", x.count(4), 23);
        due("the wheel is as it was", x.count(0), 3);
        due("the load is as it was", x.count(1), 1);
        due("the view is as it was", Kit.spoke(x, 0, 1), 1);
    }

    private static void p05Empty() {
        Kit.says("Promise 5", "The TAPE (empty then)");
        SpokeRing x = new SpokeRing();
        for (int sort = 0; sort <= 2; sort++) {
            int bytes = sort == 0 ? 5 : sort == 1 ? 3 : 1;
            Kit.type(x, sort == 0 ? "k;k;k" : sort == 1 ? "y:1" : "t");
            due("bytes ahead", x.count(4), bytes);
            x.text(sort);
            due("bytes behind", x.count(4), 0);
            due("a fault at 0", x.fault(sort), 0);
            Kit.refused("the empty tape", x, () -> x.text(0), NONE);
        }
    }

    private static void p05Another() {
        Kit.says("Promise 5", "the WHEEL (TURN 0, all ON; all that was of another one, SEEN, too, is gone but LAWS, "
                + "which holds, JOURNEYS, SLIP): how many SPOKES");
        SpokeRing x = Kit.ring("sl50w5c50a1;ks24v9o9;kv9o9;kv9o9;kv9o9;kv9o9;kv9o9;kv9o9;ks24v9o9");
        Kit.tell(x, 1, "y:1");
        Kit.tell(x, 1, "y:2");
        Kit.tell(x, 2, "t;g1");
        x.slip(9);
        due("done", x.turn(), 1);
        x.hold();
        x.years(5, 77);
        x.slip(0);
        x.years(7, 77);
        due("done in all", x.count(10) > 0, true);
        due("some are broken", x.all(6) != 0, true);
        x.slip(9);
        x.law(1);
        x.away(2);
        x.wet(1);
        x.vote(false);
        x.seen(1, false);
        x.seen(2, true);
        x.image();
        due("how many", Kit.tell(x, 0, "sw2;ks7;kv8;ko9;k"), 4);
        int[] counts = {4, 24, 2, 1, 0, 1, 0, 20, 2, 0, 0, 9, 0, 0, 0, 0};
        for (int what = 0; what < counts.length; what++) {
            due("count(" + what + ")", x.count(what), counts[what]);
        }
        due("all on", x.all(4), 15);
        due("none off", x.all(5), 0);
        due("none broken", x.all(6), 0);
        due("views as told", Kit.spoke(x, 1, 1), 8);
        due("no log", x.log(0, 0), NONE);
        due("no act", x.undo(), NONE);
        due("no image", x.back(), NONE);
        due("nothing seen", x.views(0, NONE), 10);
        due("the law", lawWorth(x), 2);
        due("the journey", x.step(0, 1, 1), 1);
        // the same text again is another wheel, too
        x.seen(1, true);
        x.image();
        Kit.tell(x, 0, "sw2;ks7;kv8;ko9;k");
        due("turn 0", x.count(6), 0);
        due("no image of this one", x.back(), NONE);
        due("nothing seen of this one", x.count(12), 0);
        due("none is there to undo", x.count(14), 0);
    }

    private static int lawWorth(SpokeRing x) {
        x.turn();
        return Kit.spoke(x, 0, 1);
    }

    private static void p05Numbers() {
        Kit.says("Promise 5", "a LAW, a JOURNEY: its number");
        SpokeRing x = new SpokeRing();
        for (int i = 0; i < 4; i++) {
            due("law " + i, Kit.tell(x, 1, "y:" + (i + 1)), i);
            due("journey " + i, Kit.tell(x, 2, "g" + (i + 1)), i);
        }
        for (int i = 0; i < 4; i++) {
            due("journey " + i + " is that one", x.step(i, 0, 1), i + 1);
        }
        Kit.tell(x, 0, "k;k;k");
        for (int i = 0; i < 4; i++) {
            x.law(i);
            x.turn();
            due("law " + i + " is that one", Kit.spoke(x, i % 3, 1), i + 1);
        }
    }

    private static void p05None() {
        Kit.says("Promise 5", "NONE: a FAULT, no such sort");
        SpokeRing x = Kit.ring("sl1;kv3;k;k");
        x.turn();
        x.seen(1, true);
        for (int sort : new int[] {-1, 3, Integer.MAX_VALUE, Integer.MIN_VALUE}) {
            for (String text : new String[] {"k;k;k", "y:1", "t"}) {
                Kit.type(x, text);
                Kit.refused("sort " + sort + " of " + text, x, () -> x.text(sort), NONE);
            }
        }
        String[] faults = {"k;k", "y:1;", "t;"};
        for (int sort = 0; sort <= 2; sort++) {
            int which = sort;
            Kit.type(x, faults[sort]);
            Kit.refused("a fault, sort " + sort, x, () -> x.text(which), NONE);
            Kit.type(x, faults[(sort + 1) % 3]);
            Kit.refused("of another sort than " + sort, x, () -> x.text(which), NONE);
        }
        due("the image, too, is of this wheel still", x.image(), 1);
        Kit.type(x, "k;k;kx");
        x.text(0);
        due("back", x.back(), 1);
    }

    private static void p05FourOfEach() {
        Kit.says("Promise 5", "NONE: there are four; Terms 1: LAWS (4 at most), JOURNEYS (4 at most)");
        SpokeRing x = Kit.ring("k;k;k");
        for (int i = 0; i < 4; i++) {
            Kit.tell(x, 1, "y:" + i);
        }
        Kit.type(x, "y:9");
        due("a fifth law is no fault", x.fault(1), NONE);
        Kit.refused("a fifth law", x, () -> x.text(1), NONE);
        due("four laws", x.count(2), 4);
        due("journeys are counted apart", x.count(3), 0);
        for (int i = 0; i < 4; i++) {
            due("journey " + i, Kit.tell(x, 2, "m" + i), i);
        }
        Kit.type(x, "t;t");
        due("a fifth journey is no fault", x.fault(2), NONE);
        Kit.refused("a fifth journey", x, () -> x.text(2), NONE);
        due("four journeys", x.count(3), 4);
        due("the fourth is the fourth", x.step(3, 0, 1), 3);
        due("wheels have no such bound", Kit.tell(x, 0, "k;k;k;k"), 4);
        due("no more room by another wheel", Kit.tell(x, 1, "y:1"), NONE);
    }

    private static void p07Holds() {
        Kit.says("Promise 7", "The LAW that holds (NONE: none)");
        SpokeRing x = Kit.ring("k;k;k");
        due("none at first", x.count(5), NONE);
        due("none, as it is", x.law(NONE), true);
        Kit.tell(x, 1, "y:1");
        Kit.tell(x, 1, "y:2");
        Kit.tell(x, 1, "y:3");
        Kit.tell(x, 1, "y:4");
        due("not by being told", x.count(5), NONE);
        due("0", x.law(0), true);
        due("3", x.law(3), true);
        due("3 again", x.law(3), true);
        due("it is 3", x.count(5), 3);
        due("no act", x.count(14), 0);
        x.turn();
        x.law(1);
        x.undo();
        due("undo leaves it", x.count(5), 1);
        due("none again", x.law(NONE), true);
        due("it is none", x.count(5), NONE);
    }

    private static void p07False() {
        Kit.says("Promise 7", "False: no such one");
        SpokeRing x = Kit.ring("k;k;k");
        Kit.refused("0 of none", x, () -> x.law(0));
        Kit.tell(x, 1, "y:1");
        x.law(0);
        Kit.refused("1 of one", x, () -> x.law(1));
        Kit.refused("-2", x, () -> x.law(-2));
        Kit.refused("far above", x, () -> x.law(Integer.MAX_VALUE));
        Kit.refused("far below", x, () -> x.law(Integer.MIN_VALUE));
        Kit.tell(x, 1, "y:1");
        Kit.tell(x, 1, "y:1");
        Kit.tell(x, 1, "y:1");
        Kit.refused("4 of four", x, () -> x.law(4));
    }

    private static void p19Digit() {
        Kit.says("Promise 19", "A STEP of a JOURNEY: 0 what (0 t, 1 h, 2 g, 3 m), 1 its digit (NONE)");
        SpokeRing x = new SpokeRing();
        Kit.tell(x, 2, "m0;g9;h;t");
        int[] kinds = {3, 2, 1, 0};
        int[] digits = {0, 9, NONE, NONE};
        for (int i = 0; i < 4; i++) {
            due("what " + i, x.step(0, i, 0), kinds[i]);
            due("digit " + i, x.step(0, i, 1), digits[i]);
        }
    }

    private static void p19Hidden() {
        Kit.says("Promise 19", "HIDDEN: no such ones");
        SpokeRing x = new SpokeRing();
        Kit.refused("no journey", x, () -> x.step(0, 0, 0), HIDDEN);
        Kit.tell(x, 2, "t");
        Kit.tell(x, 2, times(16, "t"));
        int[][] wrong = {{2, 0, 0}, {-1, 0, 0}, {0, 1, 0}, {0, -1, 0}, {0, 0, 2}, {0, 0, -1}, {1, 16, 0},
            {Integer.MAX_VALUE, 0, 0}, {Integer.MIN_VALUE, 0, 0}, {0, Integer.MAX_VALUE, 0},
            {0, Integer.MIN_VALUE, 0}, {0, 0, Integer.MAX_VALUE}, {0, 0, Integer.MIN_VALUE}};
        for (int[] w : wrong) {
            Kit.refused("step(" + w[0] + ", " + w[1] + ", " + w[2] + ")", x, () -> x.step(w[0], w[1], w[2]), HIDDEN);
        }
        due("the last one", x.step(1, 15, 0), 0);
        due("a shorter one behind a longer", Kit.tell(x, 2, "t;h"), 2);
        due("has two", x.step(2, 2, 0), HIDDEN);
    }
}
