import java.util.ArrayList;
import java.util.Arrays;
import java.util.List;

/** What a call does not tell stays as it is: behind the call and one that takes it back all is as ahead of it. */
public final class StayTests {
    /** One that holds something of all, and whose STATUS are above 0. */
    private static final String SOME = "some of all";
    private static final String FULL = "full";
    private static final String FULL_TEXT = "valley 4;candle 5 63 20 3 12;candle 1 2 3 1 4;out 1;";

    private static List<Long> statusOf(CandleLand x) {
        List<Long> status = new ArrayList<>();
        for (int what = 0; what < 3; what++) {
            status.add(Calls.answer(x, "status", what));
        }
        return status;
    }

    /** x was made as told and has been called since; all is as if it had not. */
    private static void isAsMade(CandleLand x, String state, String calls) {
        CandleLand twin = Lands.made(state);
        List<Long> status = statusOf(x);
        if (!status.equals(statusOf(twin))) {
            Check.fail(calls + " changed STATUS in the state: " + state);
        }
        if (!Check.seen(x).equals(Check.seen(twin))) {
            Check.fail(calls + " changed more than told in the state: " + state);
        }
    }

    private static int[] lit(CandleLand x) {
        int[] lit = new int[x.count(0)];
        for (int k = 0; k < lit.length; k++) {
            lit[k] = x.of(k, 5);
        }
        return lit;
    }

    private static void fog() {
        Check.says("`int fog(int n)`: FOG: what it was. BAD.");
        for (String state : new String[] {SOME, FULL}) {
            CandleLand x = Lands.made(state);
            int before = x.count(1);
            for (int n = 0; n <= 9; n++) {
                Calls.answer(x, "fog", n);
            }
            Check.due(x, 9, "fog", before);
            isAsMade(x, state, "fog");
        }
    }

    private static void moveLightUndo() {
        Check.says("UNDO: CELLS of CANDLES, which are LIT, as ahead of the last one moved, LIT, put out");
        for (int cell = 0; cell < 64; cell += 9) {
            CandleLand x = Lands.made(SOME);
            for (int k = 0; k < 3; k++) {
                int where = x.of(k, 1);
                Check.due(x, where, "move", k, cell);
                Check.due(x, cell, "of", k, 1);
                Check.due(x, x.count(2), "undo");
                Check.due(x, where, "of", k, 1);
            }
            isAsMade(x, SOME, "move and undo");
        }
        CandleLand x = Lands.made(SOME);
        int[] lit = lit(x);
        for (int k = 0; k < 3; k++) {
            int bits = x.count(2);
            Check.due(x, 1, "light", k, 1 - lit[k]);
            Check.due(x, bits ^ 1 << k, "count", 2);
            Check.due(x, bits, "undo");
        }
        isAsMade(x, SOME, "light and undo");
        allThenUndone();
    }

    private static void allThenUndone() {
        CandleLand x = Lands.made(SOME);
        int[] lit = lit(x);
        int[] bits = new int[6];
        for (int k = 0; k < 3; k++) {
            bits[2 * k] = x.count(2);
            Check.due(x, 1, "light", k, 1 - lit[k]);
            bits[2 * k + 1] = x.count(2);
            Calls.answer(x, "move", k, 63 - k);
        }
        Check.due(x, 8, "count", 5);
        for (int i = 5; i >= 0; i--) {
            Check.due(x, bits[i], "undo");
        }
        isAsMade(x, SOME, "six changes, undone");
    }

    /** A move beyond the eighth forgets the first; all that can be told apart by it stays. */
    private static void changesOfAFullOne() {
        Check.says("8 at most");
        CandleLand x = Lands.made(FULL);
        CandleLand twin = Lands.made(FULL);
        List<Long> status = statusOf(twin);
        int cell = x.of(4, 1);
        Check.due(x, cell, "move", 4, 62);
        Check.due(x, x.count(2), "undo");
        Check.due(x, 7, "count", 5);
        for (int i = 7; i > 0; i--) {
            Check.due(x, Calls.answer(twin, "undo"), "undo");
            for (int k = 0; k < 7; k++) {
                Check.due(x, twin.of(k, 1), "of", k, 1);
            }
        }
        Check.due(x, 0, "count", 5);
        Check.due(twin, 1, "count", 5);
        if (!statusOf(x).equals(status)) {
            Check.fail("what was undone counts as refused");
        }
    }

    private static void retype(CandleLand x, String text, int length) {
        for (int i = 0; i < length; i++) {
            Check.due(x, i + 1, "type", i < text.length() ? text.charAt(i) : ' ');
        }
    }

    private static void text() {
        Check.says("`int clear()`: THE TEXT is empty: how many it had.");
        for (String state : new String[] {SOME, FULL}) {
            CandleLand x = Lands.made(state);
            int length = x.count(6);
            Check.due(x, length, "clear");
            retype(x, FULL_TEXT, length);
            isAsMade(x, state, "clear and type");
        }
        Check.says("A byte (0 .. 127) comes behind THE TEXT: how many it has.");
        CandleLand x = Lands.made(SOME);
        int length = x.count(6);
        for (int i = 1; i <= 90; i++) {
            Check.due(x, length + i, "type", 37 + i);
        }
        Check.due(x, length + 90, "clear");
        retype(x, FULL_TEXT, length);
        isAsMade(x, SOME, "type, clear and type");
    }

    private static void wanted() {
        Check.says("`int forget()`: No WANTED: how many there were.");
        CandleLand x = Lands.made(SOME);
        Check.due(x, 1, "forget");
        Check.due(x, 1, "want", 5);
        isAsMade(x, SOME, "forget and want");
        x = Lands.made(FULL);
        Check.due(x, 6, "forget");
        for (int i = 0; i < 6; i++) {
            Check.due(x, i + 1, "want", 10 + i);
        }
        isAsMade(x, FULL, "forget and want");
        Check.says("A WANTED CELL: how many there are.");
        x = Lands.made(SOME);
        for (int i = 2; i <= 6; i++) {
            Check.due(x, i, "want", 7 * i);
        }
        Check.due(x, 6, "forget");
        Check.due(x, 1, "want", 5);
        isAsMade(x, SOME, "want, forget and want");
    }

    private static void readings() {
        Check.says("`int burnt()`: No READINGS: how many there were.");
        CandleLand x = Lands.made(SOME);
        Check.due(x, 1, "burnt");
        Check.due(x, 1, "reading", 6, 1, 0);
        isAsMade(x, SOME, "burnt and reading");
        x = Lands.made(FULL);
        Check.due(x, 6, "burnt");
        for (int i = 0; i < 6; i++) {
            Check.due(x, i + 1, "reading", 20 + i, i, 3 + i);
        }
        isAsMade(x, FULL, "burnt and reading");
        Check.says("A READING: how many there are.");
        x = Lands.made(SOME);
        for (int i = 2; i <= 6; i++) {
            Check.due(x, i, "reading", 7 * i, i, 3 * i);
        }
        Check.due(x, 6, "burnt");
        Check.due(x, 1, "reading", 6, 1, 0);
        isAsMade(x, SOME, "reading, burnt and reading");
    }

    private static void draught() {
        Check.says("DRAUGHT is THE FRACTION: 1.");
        for (int c = 0; c <= 10; c++) {
            CandleLand x = Lands.made(SOME);
            Check.due(x, 1, "draught", 44, 0, 1, c);
            Check.due(x, 1, "draught", 63, 11, 0, c);
            Check.due(x, 1, "draught", 44, 0, 1, 3);
            isAsMade(x, SOME, "draught and draught");
            x = Lands.made(FULL);
            Check.due(x, 1, "draught", 40, 2, 1, c);
            Check.due(x, 1, "draught", 0, 0, 1, 5);
            isAsMade(x, FULL, "draught and draught");
        }
    }

    /** What is seen of a land itself, without its images. */
    private static List<Long> seenNow(CandleLand x) {
        List<Long> all = statusOf(x);
        for (int k = 0; k < x.count(0); k++) {
            for (int what = 0; what < 7; what++) {
                all.add(Calls.answer(x, "of", k, what));
            }
        }
        all.add(Calls.answer(x, "digest"));
        while (x.count(5) > 0) {
            all.add(Calls.answer(x, "undo"));
            all.add(Calls.answer(x, "digest"));
        }
        all.add(Calls.answer(x, "read"));
        all.add(Calls.answer(x, "digest"));
        return all;
    }

    private static void images() {
        Check.says("An IMAGE is kept: 1. BAD.");
        for (String state : Lands.STATES) {
            for (int i = 0; i < 2; i++) {
                CandleLand x = Lands.made(state);
                CandleLand twin = Lands.made(state);
                Check.due(x, 1, "image", i);
                if (!seenNow(x).equals(seenNow(twin))) {
                    Check.fail("image changes the land itself in the state: " + state);
                }
                if (!state.equals("new") && !state.equals("one candle")) {
                    Check.due(x, 1, "from", 1 - i);
                    Check.due(twin, 1, "from", 1 - i);
                    Check.due(x, Calls.answer(twin, "digest"), "digest");
                }
            }
        }
        Check.says("It goes on from an IMAGE: 1.");
        for (String state : Lands.STATES) {
            CandleLand x = Lands.made(state);
            Check.due(x, 1, "image", 1);
            Check.due(x, 1, "from", 1);
            if (!seenNow(x).equals(seenNow(Lands.made(state)))) {
                Check.fail("from an image of the land itself something is changed in the state: " + state);
            }
        }
        keptAnew();
    }

    /** The last one kept counts; the other one stays; each may be gone on from again and again. */
    private static void keptAnew() {
        Check.says("IMAGES 0, 1 keep all but them, THE TEXT, THE FRACTION and STATUS");
        CandleLand x = Lands.made(SOME);
        for (int i = 0; i < 2; i++) {
            for (int n = 3; n <= 7; n++) {
                Check.due(x, n == 3 ? i == 0 ? 2 : 7 : n - 1, "fog", n);
                Check.due(x, 1, "image", i);
                Check.due(x, n, "fog", 9);
                Check.due(x, 1, "from", i);
                Check.due(x, n, "count", 1);
                Check.due(x, 1, "from", i);
                Check.due(x, n, "count", 1);
            }
            Check.due(x, 7, "count", 1);
        }
        Check.due(x, 7, "fog", 1);
        Check.due(x, 1, "image", 1);
        Check.due(x, 1, "from", 0);
        Check.due(x, 7, "count", 1);
        Check.due(x, 1, "from", 1);
        Check.due(x, 1, "count", 1);
    }

    /** A candle comes behind the others: those, and all but what may be undone, stay. */
    private static void candle() {
        Check.says("A CANDLE: its number.");
        CandleLand x = Lands.made(SOME);
        Check.due(x, 3, "candle", 4, 50, 6, 3, 7);
        long[] before = {3, 2, 5, 1, 1, 2, 52};
        long[] after = {4, 2, 13, 1, 1, 0, 52};
        long[] rest = {0, 8, 12, 0, 8, 1, 17, 13, 1, 8, 2, 44, 14, 2, 8};
        Check.due(Lands.made(SOME), digest(before, rest, new long[0]), "digest");
        Check.due(x, digest(after, rest, new long[] {4, 50, 6, 3, 7}), "digest");
        if (!statusOf(x).equals(statusOf(Lands.made(SOME)))) {
            Check.fail("candle changed STATUS");
        }
        CandleLand twin = Lands.made(SOME);
        Check.due(x, Calls.answer(twin, "read"), "read");
        for (int i = 0; i < 2; i++) {
            Check.due(x, 1, "from", i);
            Check.due(twin, 1, "from", i);
            Check.due(x, Calls.answer(twin, "digest"), "digest");
        }
    }

    /** With the wanted cell 5, the reading 6, 1, 0 and the fraction 91 by 100. */
    private static long digest(long[] counts, long[] candles, long[] more) {
        long[] all = Arrays.copyOf(counts, counts.length + candles.length + more.length + 6);
        System.arraycopy(candles, 0, all, counts.length, candles.length);
        System.arraycopy(more, 0, all, counts.length + candles.length, more.length);
        System.arraycopy(new long[] {5, 6, 1, 0, 91, 100}, 0, all, all.length - 6, 6);
        return Check.mixed(all);
    }

    public static void main(String[] args) {
        fog();
        moveLightUndo();
        changesOfAFullOne();
        text();
        wanted();
        readings();
        draught();
        images();
        candle();
        Check.end();
    }
}
