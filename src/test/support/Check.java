import java.io.IOException;
import java.nio.file.Files;
import java.nio.file.Path;
import java.util.ArrayList;
import java.util.Arrays;
import java.util.HashSet;
import java.util.List;
import java.util.Set;

/** What is due of a call, by the sentence of the document that asks for it. */
final class Check {
    private static final int SHOWN = 40;
    private static final String DOC = squeezed(document());
    private static int wrong = 0;
    private static final Set<String> SENTENCES = new HashSet<>();
    private static String sentence = "";

    private Check() {
    }

    private static String document() {
        try {
            return Files.readString(Path.of("../shared/DOC.md"));
        } catch (IOException e) {
            throw new IllegalStateException("../shared/DOC.md can not be read", e);
        }
    }

    private static String squeezed(String text) {
        return text.replaceAll("\\s+", " ").trim();
    }

    /** The checks that follow are of this sentence; the document must say it just so. */
    static void says(String words) {
        sentence = words;
        SENTENCES.add(words);
        if (!DOC.contains(squeezed(words))) {
            fail("the document does not say so");
        }
    }

    static void fail(String what) {
        wrong++;
        if (wrong <= SHOWN) {
            System.out.println("\"" + sentence + "\": " + what);
        }
    }

    static void due(CandleLand x, long want, String call, int... a) {
        long got = Calls.answer(x, call, a);
        if (got != want) {
            String numbers = Arrays.toString(a);
            fail(call + "(" + numbers.substring(1, numbers.length() - 1) + ") answered " + got + ", due is " + want);
        }
    }

    /** STATUS, whole. */
    static void refused(CandleLand x, int bad, int no, int full) {
        due(x, bad, "status", 0);
        due(x, no, "status", 1);
        due(x, full, "status", 2);
    }

    static void fraction(CandleLand x, long above, long below) {
        due(x, above, "part", 0);
        due(x, below, "part", 1);
    }

    /** THE TEXT is this one from now on. */
    static void text(CandleLand x, String text) {
        Calls.answer(x, "clear");
        for (int i = 0; i < text.length(); i++) {
            due(x, i + 1, "type", text.charAt(i));
        }
    }

    static long mixed(long... values) {
        long h = 991;
        for (long v : values) {
            h = 31 * h + v;
        }
        return h;
    }

    /** All that can be seen of an object but STATUS; it is spent by being looked at. */
    static List<Long> seen(CandleLand x) {
        List<Long> all = new ArrayList<>();
        for (int k = 0; k < Calls.answer(x, "count", 0); k++) {
            all.add(Calls.answer(x, "of", k, 5));
        }
        seenBack(x, all);
        for (int i = 0; i < 2; i++) {
            all.add(Calls.answer(x, "from", i));
            seenBack(x, all);
        }
        all.add(Calls.answer(x, "read"));
        seenBack(x, all);
        return all;
    }

    private static void seenBack(CandleLand x, List<Long> all) {
        all.add(Calls.answer(x, "digest"));
        for (int i = 0; i < 9; i++) {
            all.add(Calls.answer(x, "undo"));
            all.add(Calls.answer(x, "digest"));
        }
    }

    static void end() {
        System.out.println(wrong == 0 ? SENTENCES.size() + " sentences hold" : wrong + " answers are not as due");
        if (wrong != 0) {
            System.exit(1);
        }
    }
}
