import java.math.BigInteger;
import java.util.ArrayList;
import java.util.Arrays;
import java.util.List;

/** The edges of what was measured: readings, sets that fit, where to measure, draughts, nights, THE FRACTION. */
public final class MeasureEdgeTests {
    /** Candles as rows of kind, cell, height, owner, tallow. */
    private static CandleLand with(int[]... candles) {
        CandleLand x = new CandleLand();
        for (int k = 0; k < candles.length; k++) {
            Check.due(x, k, "candle", candles[k]);
        }
        return x;
    }

    private static CandleLand seven(int kind, int height) {
        CandleLand x = new CandleLand();
        for (int k = 0; k < 7; k++) {
            Check.due(x, k, "candle", kind, 9 * k, height, k % 4, 12);
        }
        return x;
    }

    private static void readings() {
        Check.says("READINGS 0 .. 5, as they come: a CELL was LIGHT by v (0 .. 23) in an HOUR.");
        CandleLand x = new CandleLand();
        Check.due(x, 0, "count", 4);
        for (int i = 1; i <= 6; i++) {
            Check.due(x, i, "reading", 10 * i, 2 * i - 1, 4 * i - 1);
            Check.due(x, i, "count", 4);
        }
        Check.due(x, -4, "reading", 0, 0, 0);
        Check.due(x, Check.mixed(0, 0, 0, 0, 6, 0, 0, 10, 1, 3, 20, 3, 7, 30, 5, 11, 40, 7, 15, 50, 9, 19, 60, 11, 23,
                0, 1), "digest");
        Check.refused(x, 0, 0, 1);
        Check.says("`int burnt()`: No READINGS: how many there were.");
        Check.due(x, 6, "burnt");
        Check.due(x, 0, "count", 4);
        Check.due(x, 0, "burnt");
        Check.due(x, 1, "reading", 63, 11, 23);
        Check.due(x, 1, "burnt");
        Check.refused(x, 0, 0, 1);
    }

    private static void setsThatFit() {
        Check.says("BURN: sets of CANDLES LIT (the others out) by which all READINGS are so: how many");
        CandleLand x = new CandleLand();
        for (int k = 0; k < 7; k++) {
            Check.due(x, 1 << k, "burn", 0);
            Check.due(x, 0, "burn", 1);
            x.candle(0, 9 * k, 1, 0, 12);
        }
        Check.due(x, 128, "burn", 0);
        Check.due(x, 0, "burn", 1);
        for (int k = 0; k < 6; k++) {
            x.reading(9 * k, 11, 1);
            Check.due(x, 64 >> k, "burn", 0);
            Check.due(x, (2 << k) - 1, "burn", 1);
        }
        Check.due(x, 6, "burnt");
        for (int k = 1; k < 7; k++) {
            x.reading(9 * k, 11, 0);
            Check.due(x, 128 >> k, "burn", 0);
            Check.due(x, 0, "burn", 1);
        }
        Check.due(x, 127, "count", 2);
        Check.says("CANDLES that are in all of them (bits; none: no set)");
        x = with(new int[] {1, 0, 20, 0, 2}, new int[] {0, 0, 20, 1, 12});
        x.reading(0, 0, 23);
        Check.due(x, 2, "burn", 0);
        Check.due(x, 1, "burn", 1);
        x.reading(0, 1, 20);
        Check.due(x, 1, "burn", 0);
        Check.due(x, 3, "burn", 1);
        x.reading(0, 0, 20);
        Check.due(x, 0, "burn", 0);
        Check.due(x, -1, "burn", 1);
        x.burnt();
        x.reading(0, 1, 20);
        Check.due(x, 2, "burn", 0);
        Check.due(x, 2, "burn", 1);
        x.reading(0, 1, 20);
        Check.due(x, 2, "burn", 0);
        x.fog(1);
        Check.due(x, 0, "burn", 0);
        x.burnt();
        x.reading(0, 0, 0);
        Check.due(x, 1, "burn", 0);
        Check.due(x, 0, "burn", 1);
        x = new CandleLand();
        x.reading(0, 0, 0);
        Check.due(x, 1, "burn", 0);
        Check.due(x, 0, "burn", 1);
        x.reading(0, 0, 1);
        Check.due(x, 0, "burn", 0);
        Check.due(x, -1, "burn", 1);
        Check.refused(x, 0, 0, 0);
        oneSetOnly();
    }

    private static void oneSetOnly() {
        CandleLand x = new CandleLand();
        for (int k = 0; k < 6; k++) {
            x.candle(0, 9 * k, 1, 0, 12);
            x.reading(9 * k, 0, 1);
        }
        Check.due(x, 1, "burn", 0);
        Check.due(x, 63, "burn", 1);
        Check.due(x, 0, "measure", 0);
    }

    private static void lightThatIsAsRead() {
        Check.says("a CELL was LIGHT by v (0 .. 23) in an HOUR");
        for (int v = 0; v <= 23; v++) {
            CandleLand x = with(new int[] {1, 30, 20, 0, 12});
            x.reading(30, 0, v);
            Check.due(x, v == 0 || v == 23 ? 1 : 0, "burn", 0);
            Check.due(x, v == 0 ? 0 : v == 23 ? 1 : -1, "burn", 1);
            x.burnt();
            x.reading(30, 6, v);
            Check.due(x, v == 0 ? 2 : 0, "burn", 0);
        }
    }

    private static void measure() {
        Check.says("MEASURE in an HOUR: the CELL by which the most of these sets by which it is alike LIGHT are fewest");
        CandleLand x = new CandleLand();
        Check.due(x, 0, "measure", 0);
        Check.due(x, 0, "measure", 11);
        x = with(new int[] {0, 63, 1, 0, 1});
        Check.due(x, 63, "measure", 0);
        x.light(0, 0);
        Check.due(x, 63, "measure", 0);
        x.fog(1);
        Check.due(x, 0, "measure", 0);
        x = with(new int[] {0, 10, 2, 0, 12}, new int[] {0, 12, 2, 0, 12});
        // at 10 light 2, 0: 2 sets each; at 11 1 by either: 3 of 4; at 2 as at 10
        Check.due(x, 2, "measure", 0);
        x = with(new int[] {0, 10, 2, 0, 12}, new int[] {0, 11, 3, 0, 12});
        // at 9 light 1 by either: 3 alike; at 2 by 1: 1 or, by the other, 1; at 11 by 3 or 1: 2 alike at most
        Check.due(x, 3, "measure", 0);
        Check.says("of like ones the first; none: no set.");
        x = with(new int[] {5, 63, 15, 0, 1});
        Check.due(x, 0, "measure", 0);
        Check.due(x, 0, "measure", 11);
        x = with(new int[] {5, 63, 14, 0, 1});
        Check.due(x, 1, "measure", 0);
        x.reading(63, 0, 1);
        Check.due(x, 0, "measure", 0);
        x.reading(63, 0, 0);
        Check.due(x, -1, "measure", 0);
        Check.due(x, -1, "measure", 11);
        Check.refused(x, 0, 0, 0);
        x = with(new int[] {0, 0, 20, 0, 1}, new int[] {0, 63, 1, 0, 12});
        Check.due(x, 0, "measure", 0);
        Check.due(x, 63, "measure", 1);
        x.reading(0, 0, 20);
        Check.due(x, 0, "measure", 0);
        x.burnt();
        x.reading(0, 0, 0);
        Check.due(x, 63, "measure", 0);
        x = with(new int[] {1, 63, 20, 0, 12}, new int[] {1, 63, 20, 0, 12});
        Check.due(x, 0, "measure", 0);
        x = with(new int[] {1, 0, 20, 0, 12}, new int[] {0, 63, 20, 0, 12});
        for (int round = 0; round < 3; round++) {
            Check.due(x, 0, "measure", 0);
        }
        // all seven burnt: 128 sets are alike wherever one measures
        x = new CandleLand();
        for (int k = 0; k < 7; k++) {
            x.candle(0, 9 * k, 20, 0, 11);
        }
        Check.due(x, 0, "measure", 11);
    }

    /** All 128 sets, or those that fit, by the words alone: each set is lit, and each cell looked at. */
    private static void measureOfSeven() {
        Check.says("the CELL by which the most of these sets by which it is alike LIGHT are fewest");
        int[][] candles = {{0, 3, 7, 0, 12}, {1, 60, 9, 1, 12}, {2, 33, 4, 2, 3}, {3, 24, 6, 3, 2}, {4, 14, 15, 0, 9},
            {5, 7, 20, 1, 0}, {0, 45, 11, 2, 5}};
        int[][][] readings = {{}, {{30, 0, 6}}, {{45, 0, 11}, {3, 1, 7}}, {{63, 11, 1}, {60, 0, 12}, {24, 2, 6}}};
        int[] hours = {0, 2, 3, 6, 11};
        for (int[][] read : readings) {
            int[][][] light = lights(candles, read, hours);
            CandleLand x = with(candles);
            for (int[] r : read) {
                Calls.answer(x, "reading", r);
            }
            Check.due(x, light.length, "burn", 0);
            for (int h = 0; h < hours.length; h++) {
                Check.due(x, bestCell(light, h), "measure", hours[h]);
            }
        }
    }

    /** Of each set that fits, by each of these hours: how light the cells are. */
    private static int[][][] lights(int[][] candles, int[][] readings, int[] hours) {
        List<int[][]> fitting = new ArrayList<>();
        for (int set = 0; set < 1 << candles.length; set++) {
            CandleLand x = with(candles);
            for (int k = 0; k < candles.length; k++) {
                if ((set >> k & 1) == 0) {
                    Check.due(x, 1, "light", k, 0);
                }
            }
            boolean fits = true;
            for (int[] r : readings) {
                fits = fits && Calls.answer(x, "cell", r[0], r[1], 0) == r[2];
            }
            int[][] light = new int[hours.length][64];
            for (int i = 0; i < 64 * hours.length; i++) {
                light[i / 64][i % 64] = (int) Calls.answer(x, "cell", i % 64, hours[i / 64], 0);
            }
            if (fits) {
                fitting.add(light);
            }
        }
        return fitting.toArray(new int[0][][]);
    }

    private static int bestCell(int[][][] light, int hour) {
        int best = -1;
        int fewest = Integer.MAX_VALUE;
        for (int c = 0; c < 64; c++) {
            int[] alike = new int[24];
            for (int[][] set : light) {
                alike[set[hour][c]]++;
            }
            int most = Arrays.stream(alike).max().getAsInt();
            if (light.length > 0 && most < fewest) {
                fewest = most;
                best = c;
            }
        }
        return best;
    }

    private static void draught() {
        Check.says("the chance that a CELL is LIGHT by n (0 .. 23) or more in an HOUR: THE FRACTION.");
        CandleLand x = new CandleLand();
        for (int c = 0; c <= 10; c += 5) {
            Check.due(x, 1, "draught", 0, 0, 0, c);
            Check.fraction(x, 1, 1);
            Check.due(x, 1, "draught", 63, 11, 1, c);
            Check.fraction(x, 0, 1);
        }
        x = with(new int[] {1, 0, 20, 0, 12});
        Check.due(x, 1, "draught", 0, 5, 23, 3);
        Check.fraction(x, 7, 10);
        Check.due(x, 1, "draught", 0, 6, 23, 3);
        Check.fraction(x, 0, 1);
        Check.due(x, 1, "draught", 1, 0, 23, 3);
        Check.fraction(x, 0, 1);
        Check.due(x, 1, "draught", 1, 0, 22, 3);
        Check.fraction(x, 7, 10);
        x.fog(1);
        Check.due(x, 1, "draught", 1, 0, 22, 3);
        Check.fraction(x, 0, 1);
        x.light(0, 0);
        Check.due(x, 1, "draught", 0, 0, 1, 3);
        Check.fraction(x, 0, 1);
        Check.due(x, 1, "draught", 0, 0, 0, 3);
        Check.fraction(x, 1, 1);
        Check.due(x, 0, "count", 2);
        Check.says("DRAUGHT: each CANDLE LIT is blown out by c of 10 (0 .. 10), apart");
        long[][] due = {{1, 1}, {9999999, 10000000}, {78124, 78125}, {9997813, 10000000}, {77997, 78125}, {127, 128},
            {75938, 78125}, {9176457, 10000000}, {61741, 78125}, {5217031, 10000000}, {0, 1}};
        x = new CandleLand();
        for (int k = 0; k < 7; k++) {
            x.candle(0, 0, 5, k % 4, 12);
        }
        for (int c = 0; c <= 10; c++) {
            Check.due(x, 1, "draught", 0, 11, 5, c);
            Check.fraction(x, due[c][0], due[c][1]);
        }
        Check.due(x, 127, "count", 2);
        Check.due(x, 1, "draught", 0, 11, 6, 5);
        Check.fraction(x, 0, 1);
        x.light(0, 0);
        x.light(6, 0);
        Check.due(x, 1, "draught", 0, 11, 5, 5);
        Check.fraction(x, 31, 32);
    }

    private static void fraction() {
        Check.says("THE FRACTION is 0 by 1 at first; lowest terms, below above 0.");
        CandleLand x = new CandleLand();
        Check.fraction(x, 0, 1);
        Check.due(x, Check.mixed(0, 0, 0, 0, 0, 0, 0, 0, 1), "digest");
        x.candle(0, 0, 5, 0, 12);
        long[][] due = {{1, 1}, {9, 10}, {4, 5}, {7, 10}, {3, 5}, {1, 2}, {2, 5}, {3, 10}, {1, 5}, {1, 10}, {0, 1}};
        for (int c = 0; c <= 10; c++) {
            Check.due(x, 1, "draught", 0, 0, 5, c);
            Check.fraction(x, due[c][0], due[c][1]);
        }
        Check.says("DRAUGHT is THE FRACTION: 1. BAD.");
        Check.due(x, 1, "draught", 0, 0, 5, 9);
        Check.due(x, -2, "draught", 0, 0, 24, 9);
        Check.due(x, -2, "draught", 0, 0, 5, 11);
        Check.fraction(x, 1, 10);
        Check.due(x, -2, "part", 2);
        Check.due(x, -2, "part", -1);
        Check.refused(x, 4, 0, 0);
    }

    /** How often candle k of some is lit in n nights, by numbers that know no bound. */
    private static int litNights(int candles, int k, int seed, int n, int w) {
        BigInteger x = BigInteger.valueOf(seed);
        int lit = 0;
        for (int i = 0; i < n * candles; i++) {
            x = x.multiply(BigInteger.valueOf(1103515245)).add(BigInteger.valueOf(12345));
            x = x.mod(BigInteger.valueOf(2147483648L));
            int odds = x.divide(BigInteger.valueOf(65536)).mod(BigInteger.valueOf(100)).intValue();
            lit += i % candles == k && odds < w ? 1 : 0;
        }
        return lit;
    }

    private static void nights() {
        Check.says("NIGHTS by a SEED (0 .. 999999), n (0 .. 30), w (0 .. 100)");
        for (int seed : new int[] {0, 1, 2, 123456, 999998, 999999}) {
            CandleLand x = new CandleLand();
            for (int k = 0; k < 4; k++) {
                x.candle(0, 18 * k, 1, k, 1);
            }
            for (int n : new int[] {0, 1, 2, 29, 30}) {
                for (int w : new int[] {0, 1, 50, 99, 100}) {
                    for (int k = 0; k < 4; k++) {
                        Check.due(x, litNights(4, k, seed, n, w), "nights", k, seed, n, w);
                    }
                }
            }
            Check.due(x, 15, "count", 2);
            Check.refused(x, 0, 0, 0);
        }
        eachCandleInOrder();
        Check.says("X by 65536 (cut), by 100 left over, less than w: it is LIT (else out)");
        CandleLand x = with(new int[] {0, 0, 1, 0, 1});
        // X is 12345 by SEED 0: 0 by 65536; 1103527590 by SEED 1: 16838 by 65536, 38 left over
        Check.due(x, 0, "nights", 0, 0, 1, 0);
        Check.due(x, 1, "nights", 0, 0, 1, 1);
        Check.due(x, 0, "nights", 0, 1, 1, 38);
        Check.due(x, 1, "nights", 0, 1, 1, 39);
        x.light(0, 0);
        Check.due(x, 30, "nights", 0, 1, 30, 100);
        Check.due(x, 0, "count", 2);
    }

    /** X goes on over candles that are out, burnt, or another's, and from night to night. */
    private static void eachCandleInOrder() {
        Check.says("X is SEED at first; in each NIGHT, for each CANDLE in order, X becomes X times 1103515245 and 12345, "
                + "by 2147483648 what is left over");
        CandleLand x = with(new int[] {0, 0, 1, 1, 0}, new int[] {0, 20, 1, 2, 12}, new int[] {0, 40, 1, 0, 12});
        x.light(1, 0);
        x.light(2, 0);
        for (int seed : new int[] {0, 7, 999999}) {
            for (int n = 0; n <= 30; n += 5) {
                Check.due(x, 0, "nights", 1, seed, n, 100);
                Check.due(x, litNights(3, 1, seed, n, 30), "nights", 2, seed, n, 30);
                Check.due(x, litNights(3, 2, seed, n, 30), "nights", 0, seed, n, 30);
            }
        }
        Check.due(x, 1, "count", 2);
    }

    private static void acresOfNights() {
        Check.says("ACRES of an OWNER in HOUR 0, of all NIGHTS.");
        CandleLand x = new CandleLand();
        for (int o = 0; o < 4; o++) {
            Check.due(x, 0, "nights", o, 999999, 30, 100);
        }
        x = with(new int[] {5, 0, 15, 3, 0});
        Check.due(x, 1920, "nights", 3, 999999, 30, 100);
        Check.due(x, 64, "nights", 3, 0, 1, 100);
        Check.due(x, 0, "nights", 2, 0, 30, 100);
        Check.due(x, 0, "nights", 3, 0, 30, 0);
        Check.due(x, 0, "nights", 3, 0, 0, 100);
        x.candle(5, 0, 15, 2, 0);
        Check.due(x, 0, "nights", 3, 0, 30, 100);
        x = with(new int[] {0, 0, 20, 3, 0}, new int[] {0, 0, 20, 2, 1});
        Check.due(x, 0, "nights", 3, 5, 30, 100);
        Check.due(x, 1920, "nights", 2, 5, 30, 100);
        x.fog(9);
        Check.due(x, 30 * x.acres(2, 0, -1), "nights", 2, 5, 30, 100);
        x = seven(0, 1);
        for (int k = 0; k < 4; k++) {
            long due = litNights(7, k, 77, 30, 60) + (k < 3 ? litNights(7, k + 4, 77, 30, 60) : 0);
            Check.due(x, due, "nights", k, 77, 30, 60);
        }
    }

    public static void main(String[] args) {
        readings();
        setsThatFit();
        lightThatIsAsRead();
        measure();
        measureOfSeven();
        draught();
        fraction();
        nights();
        acresOfNights();
        Check.end();
    }
}
