import java.nio.charset.StandardCharsets;
import java.util.NoSuchElementException;
import java.util.function.BooleanSupplier;
import java.util.function.IntSupplier;

/** What the tests share: telling texts and comparing answers. */
final class Kit {
    static int wrong = 0;
    static int compared = 0;
    private static String sentence = "";
    private static int sentences = 0;

    private Kit() {
    }

    static void due(String what, long got, long want) {
        compared++;
        if (got != want) {
            wrong++;
            System.out.println(sentence + what + " answered " + got + ", due is " + want);
        }
    }

    static void due(String what, boolean got, boolean want) {
        due(what, got ? 1 : 0, want ? 1 : 0);
    }

    static void end(String name) {
        String of = sentences > 0 ? sentences + " sentences, " : "";
        System.out.println(name + ": " + of + compared + " answers compared, " + wrong + " wrong");
        if (wrong != 0) {
            System.exit(1);
        }
    }

    /** The five numbers of a feed that brings these bytes, from one place on. */
    static int[] numbers(String text, int from) {
        byte[] bytes = text.getBytes(StandardCharsets.ISO_8859_1);
        int[] numbers = new int[5];
        for (int i = 0; i < 20 && from + i < bytes.length; i++) {
            numbers[i / 4] |= (bytes[from + i] & 255) << 24 - 8 * (i % 4);
        }
        return numbers;
    }

    static void type(SpokeRing x, String text) {
        x.end(0);
        for (int from = 0; from < text.length(); from += 20) {
            int[] n = numbers(text, from);
            x.feed(n[0], n[1], n[2], n[3], n[4]);
        }
    }

    static int tell(SpokeRing x, int sort, String text) {
        type(x, text);
        return x.text(sort);
    }

    static SpokeRing ring(String wheel) {
        SpokeRing x = new SpokeRing();
        due("the wheel " + wheel, tell(x, 0, wheel) >= 3, true);
        return x;
    }

    static SpokeRing ring(String wheel, String law) {
        SpokeRing x = ring(wheel);
        int number = tell(x, 1, law);
        due("the law " + law, number >= 0 && x.law(number), true);
        return x;
    }

    static int fault(int sort, String text) {
        SpokeRing x = new SpokeRing();
        type(x, text);
        return x.fault(sort);
    }

    static void fault(int sort, String text, int want) {
        due("fault(" + sort + ") of '" + text + "'", fault(sort, text), want);
    }

    /** What a spoke tells; -777 for the exception. */
    static int spoke(SpokeRing x, int spoke, int what) {
        try {
            return x.spoke(spoke, what);
        } catch (NoSuchElementException e) {
            return -777;
        }
    }

    static void views(String what, SpokeRing x, int... want) {
        for (int i = 0; i < want.length; i++) {
            due(what + ": the view of " + i, spoke(x, i, 1), want[i]);
        }
    }

    static void all(String what, SpokeRing x, int... want) {
        for (int i = 0; i < want.length; i++) {
            due(what + ": all(" + i + ")", x.all(i), want[i]);
        }
    }

    /** What follows tests this sentence of the document. */
    static void says(String where, String words) {
        sentence = where + ", '" + words + "': ";
        sentences++;
    }

    /** All that can be asked without changing it: counts, spokes, the log, steps, what was seen. */
    static String state(SpokeRing x) {
        StringBuilder told = new StringBuilder();
        for (int what = 0; what <= 15; what++) {
            told.append(x.count(what)).append(' ');
        }
        for (int what = 4; what <= 6; what++) {
            told.append(x.all(what)).append(' ');
        }
        for (int i = 0; i < x.count(0); i++) {
            told.append(spoke(x, i, 0)).append(',').append(spoke(x, i, 1)).append(',');
            told.append(spoke(x, i, 2)).append(' ').append(x.views(i, SpokeRing.NONE)).append(' ');
        }
        for (int i = 0; i < x.count(13) && i < 3; i++) {
            told.append(x.log(i, 0)).append(x.log(i, 1)).append(',').append(x.log(i, 2)).append(' ');
        }
        for (int sort = 0; sort <= 2; sort++) {
            told.append(x.fault(sort)).append(' ');
        }
        return told.toString();
    }

    /** The call answers as told and changes nothing. */
    static void refused(String what, SpokeRing x, IntSupplier call, int want) {
        String before = state(x);
        due(what, call.getAsInt(), want);
        unchanged(what, before, state(x));
    }

    /** The call answers false and changes nothing. */
    static void refused(String what, SpokeRing x, BooleanSupplier call) {
        String before = state(x);
        due(what, call.getAsBoolean(), false);
        unchanged(what, before, state(x));
    }

    private static void unchanged(String what, String before, String after) {
        compared++;
        if (!before.equals(after)) {
            wrong++;
            System.out.println(sentence + what + " changed " + before + " to " + after);
        }
    }

    /** A wheel so many turns (990 and more) on: none of its turns is held. */
    static SpokeRing late(String wheel, int turns) {
        SpokeRing x = ring(wheel);
        late(x, turns);
        return x;
    }

    static void late(SpokeRing x, int turns) {
        x.slip(0);
        for (int left = turns; left > 0; left -= 30) {
            x.years(Math.min(30, left), left);
        }
        due("so many turns", x.count(6), turns);
    }
}
