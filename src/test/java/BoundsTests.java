import java.util.ArrayList;
import java.util.Arrays;
import java.util.List;

/** Each number of each call: the last that is as told and the first that is not, on both sides; what is refused. */
public final class BoundsTests {
    private static final int WORST = Integer.MIN_VALUE;
    private static final int MOST = Integer.MAX_VALUE;
    /** Stands for the number of the last candle there is. */
    private static final int LAST = -99;

    /** A number of a call: where the document tells it, its bounds, and one within them. */
    private record Number(String told, int least, int most, int ordinary) {
        int most(CandleLand x) {
            return most == LAST ? x.count(0) - 1 : most;
        }
    }

    /** A call: what its promise says of a refusal, its answer then, and its numbers. */
    private record Row(String call, String promise, int bad, Number... numbers) {
        int[] ordinary() {
            int[] a = new int[numbers.length];
            for (int i = 0; i < a.length; i++) {
                a[i] = numbers[i].ordinary();
            }
            return a;
        }
    }

    private static final Number CANDLE = new Number("CANDLES 0 .. 6, as they come", 0, LAST, 1);
    private static final Number CELL = new Number("63: CELL c lies in column", 0, 63, 20);
    private static final Number HOUR = new Number("HOURS 0 .. 11", 0, 11, 1);
    private static final Number OWNER = new Number("an OWNER (0 .. 3)", 0, 3, 1);
    private static final Number OTHER = new Number("an OWNER (0 .. 3)", 0, 3, 2);
    private static final Number LIGHT = new Number("LIGHTING for an HOUR, n (1 .. 20)", 1, 20, 5);
    private static final Number FOG = new Number("FOG (0 .. 9; 0 at first)", 0, 9, 4);

    private static final Row[] ROWS = {
        new Row("valley", "how many CANDLES there were. BAD.", -2, FOG),
        new Row("fog", "FOG: what it was. BAD.", -2, FOG),
        new Row("candle", "A CANDLE: its number. BAD;", -2, new Number("KINDS, each under the one told", 0, 5, 1), CELL,
                new Number("HEIGHT (1 .. 20)", 1, 20, 5), OWNER, new Number("TALLOW (0 .. 12)", 0, 12, 6)),
        new Row("move", "A CANDLE is moved: the CELL where it was. BAD.", -2, CANDLE, CELL),
        new Row("light", "A CANDLE is LIT (1), put out (0): 1. BAD;", -2, CANDLE,
                new Number("A CANDLE is LIT (1), put out (0)", 0, 1, 0)),
        new Row("type", "how many it has. BAD;", -2, new Number("A byte (0 .. 127) comes behind THE TEXT", 0, 127, 32)),
        new Row("of", "for how many HOURS it burns (6). BAD.", -2, CANDLE, new Number("Of a CANDLE: KIND (0), CELL (1), "
                + "HEIGHT (2), OWNER (3), TALLOW (4), whether LIT (5; 1, 0), for how many HOURS it burns (6).", 0, 6, 3)),
        new Row("shines", "LIGHT of a CANDLE in a CELL. BAD.", -2, CANDLE, CELL, HOUR),
        new Row("cell", "whether it is a HEDGE (2; 1, 0). BAD: -10.", -10, CELL, HOUR, new Number("How LIGHT a CELL is (0), "
                + "whose (1; NONE: nobody's), whether it is a HEDGE (2; 1, 0).", 0, 2, 1)),
        new Row("acres", "-5: not so many. BAD: -10.", -10, OWNER, HOUR,
                new Number("ACRES: how many (i = NONE), the i-th CELL. -5: not so many.", -1, MOST, 0)),
        new Row("hedges", "HEDGES: likewise.", -10, HOUR, new Number("HEDGES: likewise.", -1, MOST, 0)),
        new Row("dark", "DARK. BAD.", -2, CELL, HOUR, new Number("n (1 .. 20; in HOUR 12 all is dark)", 1, 20, 5)),
        new Row("want", "A WANTED CELL: how many there are. BAD;", -2, CELL),
        new Row("lighting", "LIGHTING, as bits. NONE. BAD.", -2, HOUR, LIGHT),
        new Row("tallow", "TALLOW LEAST. NONE. BAD.", -2, HOUR, LIGHT),
        new Row("put", "PUT. BAD.", -2, CANDLE, HOUR),
        new Row("thief", "the first CELL (1). NONE. BAD.", -2, CELL, CELL, HOUR,
                new Number("n (1 .. 20; both ends, too)", 1, 20, 5),
                new Number("THIEF: how many steps (0), the first CELL (1).", 0, 1, 1)),
        new Row("wedding", "WEDDING. BAD: alike, too: -100.", -100, OWNER, OTHER, HOUR),
        new Row("spite", "SPITE, as bits. BAD: alike, too.", -2, OWNER, OTHER, HOUR, new Number("p (0 .. 99)", 0, 99, 10)),
        new Row("reading", "A READING: how many there are. BAD;", -2, CELL, HOUR,
                new Number("a CELL was LIGHT by v (0 .. 23) in an HOUR", 0, 23, 5)),
        new Row("burn", "(1; bits; NONE). BAD: -10.", -10,
                new Number("how many sets (0), CANDLES in all of them (1; bits; NONE).", 0, 1, 1)),
        new Row("measure", "MEASURE. NONE. BAD.", -2, HOUR),
        new Row("draught", "DRAUGHT is THE FRACTION: 1. BAD.", -2, CELL, HOUR,
                new Number("LIGHT by n (0 .. 23) or more in an HOUR", 0, 23, 5),
                new Number("blown out by c of 10 (0 .. 10)", 0, 10, 5)),
        new Row("nights", "NIGHTS. BAD.", -2, OWNER, new Number("a SEED (0 .. 999999)", 0, 999999, 77),
                new Number("n (0 .. 30), w (0 .. 100)", 0, 30, 3), new Number("n (0 .. 30), w (0 .. 100)", 0, 100, 50)),
        new Row("part", "THE FRACTION: above (0), below (1). BAD.", -2, new Number("THE FRACTION: above (0), below (1).", 0, 1, 1)),
        new Row("image", "An IMAGE is kept: 1. BAD.", -2, new Number("IMAGES 0, 1 keep", 0, 1, 1)),
        new Row("from", "It goes on from an IMAGE: 1. BAD;", -2, new Number("IMAGES 0, 1 keep", 0, 1, 1)),
        new Row("status", "-1: another what (counts as BAD).", -1, new Number("STATUS: BAD (0), NO (1), FULL (2).", 0, 2, 1)),
        new Row("count", "6 bytes of THE TEXT. BAD.", -2, new Number("How many: 0 CANDLES, 1 FOG, 2 CANDLES LIT (bits), "
                + "3 WANTED, 4 READINGS, 5 that may be undone, 6 bytes of THE TEXT.", 0, 6, 2)),
    };

    private static List<Integer> offs(int least, int most) {
        long[] tries = {least - 1L, most + 1L, WORST, MOST, least + 32L, least + 64L, least + 128L, least + 256L,
            least + 65536L, least - 32L, least - 64L, least - 256L, least - 65536L, -least - 1L, -most - 1L};
        List<Integer> offs = new ArrayList<>();
        for (long n : tries) {
            if (n >= WORST && n <= MOST && (n < least || n > most) && !offs.contains((int) n)) {
                offs.add((int) n);
            }
        }
        return offs;
    }

    /** The call is refused so, counts in this one STATUS (0 BAD, 1 NO, 2 FULL), and changes nothing else. */
    private static void isRefused(String state, long answer, int reason, String call, int... a) {
        CandleLand x = Lands.made(state);
        CandleLand twin = Lands.made(state);
        Check.due(x, answer, call, a);
        for (int what = 0; what < 3; what++) {
            Check.due(x, twin.status(what) + (what == reason ? 1 : 0), "status", what);
        }
        if (!Check.seen(x).equals(Check.seen(twin))) {
            Check.fail(call + ", refused, changes more than STATUS in the state: " + state);
        }
    }

    private static void changesNothing(String state, String call, int... a) {
        CandleLand x = Lands.made(state);
        CandleLand twin = Lands.made(state);
        Calls.answer(x, call, a);
        for (int what = 0; what < 3; what++) {
            Check.due(x, twin.status(what), "status", what);
        }
        if (!Check.seen(x).equals(Check.seen(twin))) {
            Check.fail(call + " changes something in the state: " + state);
        }
    }

    /** In a full state BAD comes ahead of FULL, where a candle is so as it is told ahead of NO. */
    private static void beyondTheBounds() {
        for (Row row : ROWS) {
            for (int i = 0; i < row.numbers().length; i++) {
                Check.says(row.numbers()[i].told());
                for (String state : Lands.STATES) {
                    int most = row.numbers()[i].most(Lands.made(state));
                    for (int off : offs(row.numbers()[i].least(), most)) {
                        int[] a = row.ordinary();
                        a[i] = off;
                        isRefused(state, row.bad(), 0, row.call(), a);
                    }
                }
            }
        }
    }

    private static void allBeyond() {
        for (Row row : ROWS) {
            Check.says(row.promise());
            for (int off : new int[] {WORST, row.bad() == -10 ? -2 : MOST}) {
                int[] a = row.ordinary();
                Arrays.fill(a, off);
                isRefused("full", row.bad(), 0, row.call(), a);
                isRefused("new", row.bad(), 0, row.call(), a);
            }
        }
    }

    private static void theFirstReason() {
        Check.says("Refused, changing nothing but STATUS, the first of: BAD -2 a number is not as told; NO -3 as told; FULL -4");
        isRefused("one candle", -2, 0, "light", 1, 1);
        isRefused("one candle", -2, 0, "light", 0, 2);
        isRefused("one candle", -3, 1, "light", 0, 1);
        isRefused("one candle", -2, 0, "from", 2);
        isRefused("one candle", -3, 1, "from", 1);
        isRefused("full", -2, 0, "candle", 6, 0, 1, 0, 0);
        isRefused("full", -4, 2, "candle", 5, 0, 1, 0, 0);
        isRefused("full", -2, 0, "type", 128);
        isRefused("full", -4, 2, "type", 127);
        isRefused("full", -2, 0, "want", 64);
        isRefused("full", -4, 2, "want", 63);
        isRefused("full", -2, 0, "reading", 63, 11, 24);
        isRefused("full", -4, 2, "reading", 63, 11, 23);
        Check.says("(where others are told they count as these)");
        isRefused("full", -10, 0, "cell", 64, 0, 0);
        isRefused("full", -10, 0, "acres", 0, 0, -2);
        isRefused("full", -10, 0, "hedges", 0, -2);
        isRefused("full", -10, 0, "burn", 2);
        isRefused("full", -100, 0, "wedding", 0, 0, 0);
        isRefused("full", -1, 0, "status", 3);
    }

    private static void withinTheBounds() {
        for (Row row : ROWS) {
            for (int i = 0; i < row.numbers().length; i++) {
                Number number = row.numbers()[i];
                Check.says(number.told());
                for (int edge : new int[] {number.least(), number.most(Lands.made("some of all"))}) {
                    CandleLand x = Lands.made("some of all");
                    int[] a = row.ordinary();
                    a[i] = edge;
                    if (Calls.answer(x, row.call(), a) == row.bad() && row.bad() != -1) {
                        Check.fail(row.call() + " is refused with " + edge);
                    }
                    Check.due(x, Lands.made("some of all").status(0), "status", 0);
                }
            }
        }
    }

    private static void noSuchCandle() {
        Check.says("`CandleLand()`: As told; no CANDLES.");
        for (int k = 0; k < 7; k++) {
            isRefused("new", -2, 0, "move", k, 0);
            isRefused("new", -2, 0, "light", k, 0);
            isRefused("new", -2, 0, "light", k, 1);
            isRefused("new", -2, 0, "of", k, 0);
            isRefused("new", -2, 0, "shines", k, 0, 0);
            isRefused("new", -2, 0, "put", k, 0);
        }
    }

    private static void alikeOwners() {
        Check.says("WEDDING. BAD: alike, too: -100.");
        for (int o = 0; o < 4; o++) {
            isRefused("full", -100, 0, "wedding", o, o, 0);
            isRefused("new", -100, 0, "wedding", o, o, 11);
        }
        Check.says("SPITE, as bits. BAD: alike, too.");
        for (int o = 0; o < 4; o++) {
            isRefused("full", -2, 0, "spite", o, o, 0, 0);
            isRefused("new", -2, 0, "spite", o, o, 11, 99);
        }
        Check.says("two unlike OWNERS a, b in an HOUR");
        for (int a = 0; a < 4; a++) {
            for (int b = 0; b < 4; b++) {
                if (a != b) {
                    changesNothing("full", "wedding", a, b, 0);
                    changesNothing("full", "spite", a, b, 0, 5);
                }
            }
        }
    }

    private static void refusedAsNo() {
        Check.says("BAD; NO: it is so.");
        for (int k = 0; k < 7; k++) {
            isRefused("full", -3, 1, "light", k, Lands.made("full").of(k, 5));
        }
        isRefused("one candle", -3, 1, "light", 0, 1);
        Check.says("UNDO: CANDLES that are LIT then (bits). NO: none may be.");
        isRefused("new", -3, 1, "undo");
        isRefused("one candle", -3, 1, "undo");
        Check.says("BAD; NO: none was kept.");
        for (int i = 0; i < 2; i++) {
            isRefused("new", -3, 1, "from", i);
            isRefused("one candle", -3, 1, "from", i);
        }
    }

    private static void refusedAsFull() {
        Check.says("A CANDLE: its number. BAD; FULL: 7.");
        isRefused("full", -4, 2, "candle", 0, 0, 1, 0, 0);
        isRefused("full", -4, 2, "candle", 5, 63, 20, 3, 12);
        Check.says("A byte (0 .. 127) comes behind THE TEXT: how many it has. BAD; FULL.");
        isRefused("full", -4, 2, "type", 0);
        isRefused("full", -4, 2, "type", 127);
        Check.says("A WANTED CELL: how many there are. BAD; FULL: 6.");
        isRefused("full", -4, 2, "want", 0);
        isRefused("full", -4, 2, "want", 63);
        Check.says("A READING: how many there are. BAD; FULL: 6.");
        isRefused("full", -4, 2, "reading", 0, 0, 0);
        isRefused("full", -4, 2, "reading", 63, 11, 23);
    }

    private static void nothingIsChanged() {
        Check.says("(Nothing is changed by these.)");
        List<String> asking = List.of("of", "shines", "cell", "acres", "hedges", "dark", "lighting", "tallow", "put",
                "thief", "wedding", "spite", "burn", "measure", "nights", "part", "status", "count");
        for (Row row : ROWS) {
            if (asking.contains(row.call())) {
                for (int i = 0; i < row.numbers().length; i++) {
                    int[] a = row.ordinary();
                    for (String state : new String[] {"some of all", "full"}) {
                        a[i] = row.numbers()[i].least();
                        changesNothing(state, row.call(), a);
                        a[i] = row.numbers()[i].most(Lands.made(state));
                        changesNothing(state, row.call(), a);
                    }
                }
            }
        }
        changesNothing("full", "digest");
    }

    /** What is answered where there is nothing is no refusal. */
    private static void answersThatAreNoRefusals() {
        Check.says("-5: not so many.");
        Check.due(Lands.made("new"), -5, "acres", 0, 0, 0);
        changesNothing("new", "acres", 0, 0, 0);
        changesNothing("full", "acres", 0, 0, MOST);
        Check.due(Lands.made("full"), -5, "hedges", 0, MOST);
        changesNothing("full", "hedges", 0, MOST);
        Check.says("LIGHTING, as bits. NONE. BAD.");
        Check.due(Lands.made("full"), -1, "lighting", 11, 20);
        changesNothing("full", "lighting", 11, 20);
        Check.says("TALLOW LEAST. NONE. BAD.");
        Check.due(Lands.made("full"), -1, "tallow", 11, 20);
        changesNothing("full", "tallow", 11, 20);
        Check.says("BURN: how many sets (0), CANDLES in all of them (1; bits; NONE).");
        Check.due(Lands.made("full"), -1, "burn", 1);
        changesNothing("full", "burn", 1);
        Check.says("MEASURE. NONE. BAD.");
        Check.due(Lands.made("full"), -1, "measure", 0);
        changesNothing("full", "measure", 0);
        Check.says("-10 less the FAULT: all stays.");
        Check.due(Lands.made("new"), -10, "read");
        changesNothing("new", "read");
        changesNothing("one candle", "read");
    }

    public static void main(String[] args) {
        beyondTheBounds();
        allBeyond();
        theFirstReason();
        withinTheBounds();
        noSuchCandle();
        alikeOwners();
        refusedAsNo();
        refusedAsFull();
        nothingIsChanged();
        answersThatAreNoRefusals();
        Check.end();
    }
}
