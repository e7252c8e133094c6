import java.util.Random;

/** Asking, and what is refused, changes nothing: one that is asked much goes on as its twin that is asked nothing. */
public final class QuietTest {
    private static final int NONE = SpokeRing.NONE;
    private static final int RUNS = 400;
    private static final String[] LAWS = {"y:d", "y:v-1", "y:[v+d+t]/2", "y:h>1?v+w;y:d-o", "y:v<5|w=3?v+1;y:v-1"};
    private static final String[] WAYS = {"t;g0;h;t", "h;h;m1;m2;t", "g1;g1;g2;t;t;t;m0", "t;t;t;t;t;t;t;t;t;t"};

    private final Random random;

    private QuietTest(int seed) {
        random = new Random(seed);
    }

    public static void main(String[] args) {
        for (int seed = 1; seed <= RUNS && Kit.wrong < 5; seed++) {
            new QuietTest(seed).twins("run " + seed);
        }
        Kit.end("QuietTest");
    }

    private void twins(String name) {
        SpokeRing calm = new SpokeRing();
        SpokeRing asked = new SpokeRing();
        String wheel = wheel();
        int laws = random.nextInt(5);
        int ways = random.nextInt(5);
        for (SpokeRing x : new SpokeRing[] {calm, asked}) {
            Kit.tell(x, 0, wheel);
            for (int i = 0; i < laws; i++) {
                Kit.tell(x, 1, LAWS[i]);
            }
            for (int i = 0; i < ways; i++) {
                Kit.tell(x, 2, WAYS[i]);
            }
        }
        for (int i = random.nextInt(16); i > 0; i--) {
            int seed = random.nextInt();
            act(calm, new Random(seed));
            act(asked, new Random(seed));
        }
        disturb(asked);
        int seed = random.nextInt();
        Kit.due(name + ", an act behind the questions", act(asked, new Random(seed)), act(calm, new Random(seed)));
        String want = everything(calm);
        String got = everything(asked);
        Kit.due(name + " with " + wheel + " told " + got + ", its twin " + want, got.equals(want), true);
    }

    private String wheel() {
        StringBuilder text = new StringBuilder("sl").append(random.nextInt(60)).append('w').append(random.nextInt(10));
        text.append('a').append(random.nextInt(2)).append("c50");
        for (int i = 3 + random.nextInt(6); i > 0; i--) {
            text.append(";ks").append(5 + random.nextInt(40)).append('v').append(random.nextInt(10));
            text.append('o').append(random.nextInt(4));
        }
        return text.toString();
    }

    private static int act(SpokeRing x, Random by) {
        int who = by.nextInt(x.count(0));
        switch (by.nextInt(12)) {
            case 0:
                return x.hold();
            case 1:
                return x.away(who);
            case 2:
                return x.mend(who);
            case 3:
                return x.vote(by.nextBoolean()) ? 1 : 0;
            case 4:
                return x.wet(by.nextInt(10));
            case 5:
                return x.years(1 + by.nextInt(4), by.nextLong());
            case 6:
                return x.seen(1 + by.nextInt(20), by.nextBoolean());
            case 7:
                return x.law(by.nextInt(5) - 1) ? 1 : 0;
            case 8:
                return x.image();
            case 9:
                return by.nextInt(3) > 0 ? x.undo() : x.back();
            case 10:
                return x.perform(by.nextInt(4));
            default:
                return x.turn();
        }
    }

    /** Asks a good deal in an order of its own, looks at other texts, and makes calls that are refused. */
    private void disturb(SpokeRing x) {
        Kit.type(x, "sl99w9c1a1" + ";ks1v9o9".repeat(3 + random.nextInt(6)));
        x.fault(0);
        x.fault(1);
        x.text(2);
        Kit.type(x, "y:9;y:8;y:[7");
        x.fault(1);
        x.text(1);
        Kit.type(x, "m9;m8;t;x");
        x.fault(2);
        x.text(2);
        for (int i = x.count(0) - 1; i >= -1; i--) {
            x.first(i);
            x.ask(i);
            x.views(i, random.nextInt(12) - 1);
            x.often(i, random.nextInt(101));
            x.odds(i, random.nextInt(10), random.nextInt(102));
            x.bears(i, 2);
            x.game(i, 1, 1, 0, random.nextInt(2));
            x.rests(i, 2, random.nextInt(4) - 1);
            x.power(i);
            x.shares(i, 500);
            Kit.spoke(x, i, 4);
        }
        for (int i = -1; i <= 4; i++) {
            x.run(i, 0);
            x.settled(i);
            x.plan(3, i, 0);
            x.step(i, i, 1);
        }
        for (int what = 12; what >= -1; what--) {
            x.all(what);
        }
        refused(x);
        x.spare();
        x.end(0);
    }

    private static void refused(SpokeRing x) {
        x.perform(4);
        x.law(4);
        x.slip(10);
        x.slip(x.count(11));
        x.wet(10);
        x.wet(x.count(8));
        x.vote(x.count(9) == 1);
        x.give(0);
        x.give(51);
        x.years(31, 1);
        x.away(8);
        x.mend(-1);
        x.seen(21, true);
        x.end(-1);
        x.feed(1, 2, 3, 4, Integer.MIN_VALUE);
    }

    private static String everything(SpokeRing x) {
        StringBuilder told = new StringBuilder();
        int size = x.count(0);
        for (int what = 0; what <= 15; what++) {
            told.append(x.count(what)).append(what < 12 ? "/" + x.all(what) : "").append(' ');
        }
        for (int i = 0; i < size; i++) {
            told.append('\n').append(i).append(": ");
            for (int what = 0; what <= 4; what++) {
                told.append(Kit.spoke(x, i, what)).append(' ');
            }
            int other = (i + 1) % size;
            told.append(x.bears(i, 2)).append(' ').append(x.views(i, NONE)).append(' ').append(x.ask(i)).append(' ');
            told.append(x.power(i)).append(' ').append(x.often(i, 20)).append(' ').append(x.first(i)).append(' ');
            told.append(x.game(i, other, 0, 0, 0)).append(' ').append(x.rests(i, other, NONE)).append(' ');
            told.append(x.odds(i, 4, 30)).append(' ').append(x.shares(i, 999)).append(' ');
        }
        for (int i = 0; i < 4; i++) {
            told.append('\n').append(x.run(i, 0)).append(' ').append(x.run(i, 1)).append(' ').append(x.step(i, 2, 0)).append(' ');
            told.append(x.log(i, 0)).append(' ').append(x.log(i, 1)).append(' ').append(x.log(i, 2)).append(' ');
            told.append(x.plan(2, i, 0)).append(' ').append(x.plan(2, i, 1)).append(' ');
        }
        told.append(x.settled(0)).append(' ').append(x.settled(1)).append(' ').append(x.spare()).append(' ');
        // what would be undone, what an image keeps
        told.append(x.undo()).append(' ').append(x.count(7)).append(' ').append(x.count(6)).append(' ');
        told.append(x.back()).append(' ').append(x.count(7)).append(' ').append(x.count(15));
        return told.toString();
    }
}
