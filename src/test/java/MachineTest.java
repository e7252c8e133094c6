import java.util.NoSuchElementException;
import java.util.Random;

/** Calls with the oddest arguments in all states: only spoke throws, and only what the document names. */
public final class MachineTest {
    private static final int RUNS = 3000;
    private static final int CALLS = 512;
    private static final int[] ODD = {0, 1, -1, 2, 3, 7, 8, 9, 10, 15, 16, 20, 21, 31, 32, 33, 39, 40, 59, 60, 61, 63, 64, 99, 100,
        239, 240, 241, 255, 256, 999, 1000, 1001, -2, -7, -31, -32, -1000000, 1000000, Integer.MAX_VALUE, Integer.MIN_VALUE,
        Integer.MAX_VALUE - 1, Integer.MIN_VALUE + 1, 1 << 30};
    private static final String[] TEXTS = {"k;k;k", "k;k;k;k;k;k;k;k", "sl99;ks1;ks1;ks1", "sl0a1;kv9;kv0;k;k;k",
        "sl20c99;ks9v9o0;ks12v1o1;ks30v5;ks11v0", "y:v", "y:9999*9999*9999/[d-5]-t", "y:!(v=d|!o>h)&w<5?[[t]]/0;y:d*9",
        "y:!!!!!![[[", "t", "t;h;g0;g9;m1;m2;t;t;h;h;g1;g2;m0;t;h;t", "g9", "h;h;h;h;h;h;h;h", "y:1=1?", "", ";", "k;k;k;"};

    private MachineTest() {
    }

    public static void main(String[] args) {
        for (int run = 0; run < RUNS && Kit.wrong < 5; run++) {
            Random random = new Random(run);
            SpokeRing x = new SpokeRing();
            for (int i = 0; i < CALLS && Kit.wrong < 5; i++) {
                int kind = random.nextInt(46);
                try {
                    call(x, kind, random);
                    Kit.compared++;
                } catch (NoSuchElementException e) {
                    Kit.due("run " + run + ": NoSuchElementException of call " + kind, kind == 4 || kind == 5, true);
                } catch (Throwable e) {
                    Kit.wrong++;
                    System.out.println("run " + run + ", call " + kind);
                    e.printStackTrace(System.out);
                }
            }
        }
        Kit.end("MachineTest");
    }

    private static int odd(Random random) {
        int kind = random.nextInt(10);
        if (kind == 0) {
            return random.nextInt();
        }
        return kind < 7 ? random.nextInt(9) - 1 : ODD[random.nextInt(ODD.length)];
    }

    private static void call(SpokeRing x, int kind, Random random) {
        int a = odd(random);
        int b = odd(random);
        int c = odd(random);
        int d = odd(random);
        int e = odd(random);
        switch (kind) {
            case 0: x.feed(random.nextInt(), b, c, d, random.nextInt()); break;
            case 1: x.end(a); break;
            case 2: x.fault(a); break;
            case 3: x.text(a); break;
            case 4: case 5: x.spoke(a, b); break;
            case 6: x.law(a); break;
            case 7: x.slip(a); break;
            case 8: x.turn(); break;
            case 9: x.hold(); break;
            case 10: x.away(a); break;
            case 11: x.mend(a); break;
            case 12: x.vote(a > 2); break;
            case 13: x.wet(a); break;
            case 14: x.give(a); break;
            case 15: x.years(a, random.nextLong()); break;
            case 16: x.undo(); break;
            case 17: x.log(a, b); break;
            case 18: x.step(a, b, c); break;
            case 19: x.run(a, b); break;
            case 20: x.perform(a); break;
            case 21: x.bears(a, b); break;
            case 22: x.spare(); break;
            case 23: x.plan(a, b, c); break;
            case 24: x.settled(a); break;
            case 25: x.seen(a, b > 2); break;
            case 26: x.views(a, b); break;
            case 27: x.ask(a); break;
            case 28: x.power(a); break;
            case 29: x.often(a, b); break;
            case 30: x.first(a); break;
            case 31: x.game(a, b, c, d, e); break;
            case 32: x.rests(a, b, c); break;
            case 33: x.odds(a, b, c); break;
            case 34: x.shares(a, b); break;
            case 35: x.all(a); break;
            case 36: x.image(); break;
            case 37: x.back(); break;
            case 38: x.count(a); break;
            default: tell(x, kind, random); break;
        }
    }

    private static void tell(SpokeRing x, int kind, Random random) {
        StringBuilder text = new StringBuilder(TEXTS[random.nextInt(TEXTS.length)]);
        if (kind < 41) {
            for (int i = random.nextInt(240); i > 0; i--) {
                text.append("yks:;![(])?&|=<>+-*/0123456789vdohwtgm ".charAt(random.nextInt(39)));
            }
        } else if (kind == 41) {
            for (int i = 0; i < 60; i++) {
                text.append("y:![(".charAt(random.nextInt(5)));
            }
        }
        Kit.type(x, text.toString());
        for (int sort = 0; sort < 3; sort++) {
            x.fault(sort);
        }
        x.text(random.nextInt(3));
    }
}
