import java.nio.charset.StandardCharsets;
import java.util.NoSuchElementException;

/** What the tests share: telling texts and comparing answers. */
final class Kit {
    static int wrong = 0;
    static int compared = 0;

    private Kit() {
    }

    static void due(String what, long got, long want) {
        compared++;
        if (got != want) {
            wrong++;
            System.out.println(what + " answered " + got + ", due is " + want);
        }
    }

    static void due(String what, boolean got, boolean want) {
        due(what, got ? 1 : 0, want ? 1 : 0);
    }

    static void end(String name) {
        System.out.println(name + ": " + compared + " answers compared, " + wrong + " wrong");
        if (wrong != 0) {
            System.exit(1);
        }
    }

    /** The five numbers of a feed that brings these bytes, from one place on. */
    static int[] numbers(String text, int from) {
        byte[] bytes = text.getBytes(StandardCharsets.ISO_8859_1);
        int[] numbers = new int[5];
        for (int i = 0; i < 20 && from + i < bytes.length; i++) {
            numbers[i / 4] |= (bytes[from + i] & 255) << 24 - 8 * (i % 4);
        }
        return numbers;
    }

    static void type(SpokeRing x, String text) {
        x.end(0);
        for (int from = 0; from < text.length(); from += 20) {
            int[] n = numbers(text, from);
            x.feed(n[0], n[1], n[2], n[3], n[4]);
        }
    }

    static int tell(SpokeRing x, int sort, String text) {
        type(x, text);
        return x.text(sort);
    }

    static SpokeRing ring(String wheel) {
        SpokeRing x = new SpokeRing();
        due("the wheel " + wheel, tell(x, 0, wheel) >= 3, true);
        return x;
    }

    static SpokeRing ring(String wheel, String law) {
        SpokeRing x = ring(wheel);
        int number = tell(x, 1, law);
        due("the law " + law, number >= 0 && x.law(number), true);
        return x;
    }

    static int fault(int sort, String text) {
        SpokeRing x = new SpokeRing();
        type(x, text);
        return x.fault(sort);
    }

    static void fault(int sort, String text, int want) {
        due("fault(" + sort + ") of '" + text + "'", fault(sort, text), want);
    }

    /** What a spoke tells; -777 for the exception. */
    static int spoke(SpokeRing x, int spoke, int what) {
        try {
            return x.spoke(spoke, what);
        } catch (NoSuchElementException e) {
            return -777;
        }
    }

    static void views(String what, SpokeRing x, int... want) {
        for (int i = 0; i < want.length; i++) {
            due(what + ": the view of " + i, spoke(x, i, 1), want[i]);
        }
    }

    static void all(String what, SpokeRing x, int... want) {
        for (int i = 0; i < want.length; i++) {
            due(what + ": all(" + i + ")", x.all(i), want[i]);
        }
    }
}
