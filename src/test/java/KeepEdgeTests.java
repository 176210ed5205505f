import java.math.BigInteger;

/** The edges of what is kept: a new object, a new valley, what may be undone, images, STATUS, counts, the digest. */
public final class KeepEdgeTests {
    private static CandleLand with(int candles) {
        CandleLand x = new CandleLand();
        for (int k = 0; k < candles; k++) {
            Check.due(x, k, "candle", k % 6, k, 20 - k, k % 4, 12 - k);
        }
        return x;
    }

    private static void newObject() {
        Check.says("`CandleLand()`: As told; no CANDLES.");
        CandleLand x = new CandleLand();
        for (int what = 0; what <= 6; what++) {
            Check.due(x, 0, "count", what);
        }
        Check.fraction(x, 0, 1);
        Check.refused(x, 0, 0, 0);
        Check.due(x, Check.mixed(0, 0, 0, 0, 0, 0, 0, 0, 1), "digest");
        for (int i = 0; i < 2; i++) {
            Check.due(x, -3, "from", i);
        }
        Check.due(x, -3, "undo");
        Check.due(x, 0, "clear");
        Check.due(x, 0, "forget");
        Check.due(x, 0, "burnt");
        Check.due(x, -10, "read");
        Check.due(x, 0, "valley", 0);
        Check.refused(x, 0, 3, 0);
        CandleLand other = with(7);
        Check.due(new CandleLand(), 0, "count", 0);
        Check.due(other, 7, "count", 0);
    }

    private static void valley() {
        Check.says("FOG, all else as at first (but for IMAGES, THE TEXT, THE FRACTION, STATUS): "
                + "how many CANDLES there were. BAD.");
        for (int candles = 0; candles <= 7; candles++) {
            CandleLand x = with(candles);
            for (int k = 0; k < candles; k++) {
                Check.due(x, 1, "light", k, 0);
            }
            x.want(1);
            x.reading(1, 1, 1);
            x.type('v');
            x.image(0);
            x.draught(0, 0, 0, 0);
            x.undo();
            x.undo();
            long no = x.status(1);
            Check.due(x, -2, "valley", 10);
            Check.due(x, candles, "count", 0);
            Check.due(x, candles, "valley", 9);
            Check.due(x, Check.mixed(0, 9, 0, 0, 0, 0, 1, 1, 1), "digest");
            Check.due(x, 0, "valley", 0);
            Check.due(x, Check.mixed(0, 0, 0, 0, 0, 0, 1, 1, 1), "digest");
            Check.due(x, -3, "undo");
            Check.refused(x, 1, (int) no + 1, 0);
            Check.due(x, 1, "from", 0);
            Check.due(x, candles, "count", 0);
            Check.due(x, 1, "count", 3);
            Check.due(x, 1, "count", 4);
            Check.due(x, candles, "count", 5);
        }
    }

    private static void fog() {
        Check.says("`int fog(int n)`: FOG: what it was. BAD.");
        CandleLand x = new CandleLand();
        for (int n = 0; n <= 9; n++) {
            Check.due(x, Math.max(0, n - 1), "fog", n);
            Check.due(x, n, "count", 1);
        }
        Check.due(x, -2, "fog", 10);
        Check.due(x, -2, "fog", -1);
        Check.due(x, 9, "fog", 9);
        Check.due(x, 9, "fog", 0);
        Check.refused(x, 2, 0, 0);
        Check.due(x, 0, "count", 5);
    }

    private static void moveAndLight() {
        Check.says("A CANDLE is moved: the CELL where it was. BAD.");
        CandleLand x = with(7);
        for (int k = 0; k < 7; k++) {
            Check.due(x, k, "move", k, 63);
            Check.due(x, 63, "move", k, 0);
            Check.due(x, 0, "move", k, 0);
            Check.due(x, 0, "of", k, 1);
        }
        Check.due(x, -2, "move", 7, 0);
        Check.refused(x, 1, 0, 0);
        Check.says("A CANDLE is LIT (1), put out (0): 1. BAD; NO: it is so.");
        x = with(7);
        for (int k = 0; k < 7; k++) {
            Check.due(x, -3, "light", k, 1);
            Check.due(x, 1, "light", k, 0);
            Check.due(x, 127 & ~(1 << k), "count", 2);
            Check.due(x, -3, "light", k, 0);
            Check.due(x, -2, "light", k, 2);
            Check.due(x, -2, "light", k, -1);
            Check.due(x, 1, "light", k, 1);
            Check.due(x, 127, "count", 2);
        }
        Check.refused(x, 14, 14, 0);
    }

    private static void undo() {
        Check.says("UNDO: CELLS of CANDLES, which are LIT, as ahead of the last one moved, LIT, put out (8 at most");
        for (int changes = 0; changes <= 10; changes++) {
            CandleLand x = with(1);
            for (int i = 1; i <= changes; i++) {
                Check.due(x, i - 1, "move", 0, i);
                Check.due(x, Math.min(8, i), "count", 5);
            }
            int may = Math.min(8, changes);
            for (int i = 1; i <= may; i++) {
                Check.due(x, 1, "undo");
                Check.due(x, changes - i, "of", 0, 1);
                Check.due(x, may - i, "count", 5);
            }
            Check.due(x, -3, "undo");
            Check.due(x, changes - may, "of", 0, 1);
            Check.refused(x, 0, 1, 0);
        }
        undoOfLit();
        undoOfAll();
        Check.says("behind a CANDLE that comes none may be");
        CandleLand x = with(2);
        x.move(0, 9);
        x.light(1, 0);
        Check.due(x, 2, "count", 5);
        Check.due(x, -2, "candle", 6, 0, 1, 0, 0);
        Check.due(x, 2, "count", 5);
        Check.due(x, 2, "candle", 0, 0, 1, 0, 0);
        Check.due(x, 0, "count", 5);
        Check.due(x, -3, "undo");
        Check.due(x, 9, "of", 0, 1);
        Check.due(x, 5, "count", 2);
        x.move(2, 8);
        Check.due(x, 5, "undo");
        Check.due(x, 0, "of", 2, 1);
        x = with(7);
        x.move(6, 8);
        Check.due(x, -4, "candle", 0, 0, 1, 0, 0);
        Check.due(x, 127, "undo");
        Check.due(x, 6, "of", 6, 1);
    }

    private static void undoOfLit() {
        Check.says("UNDO: CANDLES that are LIT then (bits). NO: none may be.");
        CandleLand x = with(7);
        for (int k = 0; k < 7; k++) {
            Check.due(x, 1, "light", k, 0);
        }
        Check.due(x, -3, "light", 0, 0);
        Check.due(x, 1, "light", 3, 1);
        Check.due(x, 8, "count", 5);
        int[] lit = {0, 64, 96, 112, 120, 124, 126, 127};
        for (int bits : lit) {
            Check.due(x, bits, "undo");
            Check.due(x, bits, "count", 2);
        }
        Check.due(x, -3, "undo");
        Check.refused(x, 0, 2, 0);
        // of ten, two are forgotten: they were lit by 127 and 126 ahead of them
        for (int k = 0; k < 7; k++) {
            Check.due(x, 1, "light", k, 0);
        }
        for (int k = 4; k < 7; k++) {
            Check.due(x, 1, "light", k, 1);
        }
        for (int bits : new int[] {48, 16, 0, 64, 96, 112, 120, 124}) {
            Check.due(x, bits, "undo");
        }
        Check.due(x, -3, "undo");
        Check.due(x, 124, "count", 2);
    }

    /** All that is not a cell of a candle, or whether it is lit, stays; what was undone does not come again. */
    private static void undoOfAll() {
        CandleLand x = with(3);
        x.move(1, 40);
        x.fog(5);
        x.want(7);
        x.reading(8, 9, 10);
        x.image(1);
        x.light(2, 0);
        x.move(0, 50);
        x.type('a');
        x.draught(0, 0, 0, 5);
        Check.due(x, 3, "count", 5);
        Check.due(x, 3, "undo");
        Check.due(x, 0, "of", 0, 1);
        Check.due(x, 40, "of", 1, 1);
        Check.due(x, 7, "undo");
        x.move(2, 60);
        Check.due(x, 2, "count", 5);
        Check.due(x, 7, "undo");
        Check.due(x, 2, "of", 2, 1);
        Check.due(x, 40, "of", 1, 1);
        Check.due(x, 7, "undo");
        Check.due(x, 1, "of", 1, 1);
        Check.due(x, -3, "undo");
        Check.due(x, Check.mixed(3, 5, 7, 1, 1, 0, 1, 0, 0, 20, 0, 12, 1, 1, 19, 1, 11, 2, 2, 18, 2, 10, 7, 8, 9, 10,
                1, 1), "digest");
        Check.due(x, 1, "from", 1);
        Check.due(x, 40, "of", 1, 1);
    }

    private static void images() {
        Check.says("BAD; NO: none was kept.");
        CandleLand x = with(2);
        Check.due(x, -3, "from", 0);
        Check.due(x, 1, "image", 1);
        Check.due(x, -3, "from", 0);
        Check.due(x, 1, "from", 1);
        Check.due(x, 1, "image", 0);
        Check.due(x, 1, "from", 0);
        Check.due(x, -2, "from", 2);
        Check.due(x, -2, "from", -1);
        Check.due(x, -2, "image", 2);
        Check.due(x, -2, "image", -1);
        Check.refused(x, 4, 2, 0);
        Check.says("IMAGES 0, 1 keep all but them, THE TEXT, THE FRACTION and STATUS");
        x = new CandleLand();
        Check.due(x, 1, "image", 0);
        for (int k = 0; k < 7; k++) {
            x.candle(k % 6, 8 * k, 20, 3, 12);
            x.want(Math.min(63, 10 * k));
            x.reading(k, k, k);
        }
        x.fog(9);
        for (int i = 0; i < 9; i++) {
            x.light(i % 7, i < 7 ? 0 : 1);
        }
        Check.due(x, 1, "image", 1);
        long digest = Calls.answer(x, "digest");
        Check.due(x, 1, "from", 0);
        Check.due(x, Check.mixed(0, 0, 0, 0, 0, 0, 0, 0, 1), "digest");
        Check.due(x, -3, "undo");
        Check.due(x, 1, "from", 1);
        Check.due(x, digest, "digest");
        Check.refused(x, 0, 1, 2);
        x.type('t');
        x.draught(0, 0, 0, 0);
        Check.due(x, 1, "from", 0);
        Check.due(x, Check.mixed(0, 0, 0, 0, 0, 0, 1, 1, 1), "digest");
        x.clear();
        x.draught(0, 0, 1, 0);
        Check.due(x, 1, "from", 1);
        Check.due(x, digest, "digest");
        Check.refused(x, 0, 1, 2);
        imagesOfUnlike();
        imagesOfFull();
        whatImagesKeepUndone();
    }

    /** No two of the counts are alike, in neither image. */
    private static void imagesOfUnlike() {
        CandleLand x = with(3);
        for (int i = 0; i < 6; i++) {
            x.reading(10 + i, i, 2 * i);
        }
        for (int i = 0; i < 4; i++) {
            x.want(30 + i);
            x.move(2, 40 + i);
        }
        x.move(1, 50);
        x.fog(1);
        long first = Check.mixed(3, 1, 7, 4, 6, 5, 0, 0, 0, 20, 0, 12, 1, 50, 19, 1, 11, 2, 43, 18, 2, 10, 30, 31, 32, 33,
                10, 0, 0, 11, 1, 2, 12, 2, 4, 13, 3, 6, 14, 4, 8, 15, 5, 10, 0, 1);
        Check.due(x, first, "digest");
        Check.due(x, 1, "image", 0);
        Check.due(x, 6, "burnt");
        x.want(60);
        x.reading(61, 7, 9);
        x.light(0, 0);
        x.fog(8);
        long second = Check.mixed(3, 8, 6, 5, 1, 6, 0, 0, 0, 20, 0, 12, 1, 50, 19, 1, 11, 2, 43, 18, 2, 10, 30, 31, 32, 33,
                60, 61, 7, 9, 0, 1);
        Check.due(x, second, "digest");
        Check.due(x, 1, "image", 1);
        Check.due(x, 3, "valley", 2);
        for (int round = 0; round < 2; round++) {
            Check.due(x, 1, "from", 0);
            Check.due(x, first, "digest");
            Check.due(x, 1, "from", 1);
            Check.due(x, second, "digest");
        }
        Check.due(x, 7, "undo");
        Check.due(x, 5, "forget");
        Check.due(x, 1, "from", 1);
        Check.due(x, second, "digest");
    }

    /** Two full ones with nothing alike: what comes after an image is kept writes over nothing of it. */
    private static void imagesOfFull() {
        CandleLand x = new CandleLand();
        for (int i = 0; i < 2; i++) {
            Check.due(x, 7 * i, "valley", 9 - i);
            for (int k = 0; k < 7; k++) {
                x.candle((k + i) % 6, 7 * k + i, 20 - k - i, (k + i) % 4, 12 - k - i);
            }
            for (int k = 0; k < 6; k++) {
                x.want(60 - 10 * k - i);
                x.reading(9 * k + 1 + i, 2 * k + i, 3 * k + i);
            }
            for (int k = 0; k < 4; k++) {
                x.light(k + 3 * i, 0);
                x.move(k + 3 * i, 50 + k + 5 * i);
            }
            x.image(i);
        }
        for (int i = 0; i < 2; i++) {
            Check.due(x, 1, "from", i);
            Check.due(x, fullDigest(i, 8, 4), "digest");
            for (int k = 3; k >= 0; k--) {
                Check.due(x, fullLit(i, k + 1), "undo");
                Check.due(x, fullLit(i, k), "undo");
                Check.due(x, fullDigest(i, 2 * k, k), "digest");
            }
            Check.due(x, -3, "undo");
        }
    }

    private static int fullLit(int i, int changed) {
        return 127 & ~(((1 << changed) - 1) << 3 * i);
    }

    /** The digest of the i-th full one, when so many of its candles are changed. */
    private static long fullDigest(int i, int undos, int changed) {
        long h = Check.mixed(7, 9 - i, fullLit(i, changed), 6, 6, undos, 0);
        for (int k = 0; k < 7; k++) {
            boolean moved = k >= 3 * i && k < 3 * i + changed;
            int cell = moved ? 50 + k - 3 * i + 5 * i : 7 * k + i;
            for (int v : new int[] {(k + i) % 6, cell, 20 - k - i, (k + i) % 4, 12 - k - i}) {
                h = 31 * h + v;
            }
        }
        for (int k = 0; k < 6; k++) {
            h = 31 * h + 60 - 10 * k - i;
        }
        for (int k = 0; k < 6; k++) {
            for (int v : new int[] {9 * k + 1 + i, 2 * k + i, 3 * k + i}) {
                h = 31 * h + v;
            }
        }
        return 31 * (31 * h) + 1;
    }

    private static void whatImagesKeepUndone() {
        Check.says("what may be undone they keep; it goes on from one");
        CandleLand x = with(1);
        for (int i = 1; i <= 10; i++) {
            x.move(0, i);
        }
        x.image(0);
        for (int i = 0; i < 3; i++) {
            x.undo();
        }
        x.image(1);
        x.candle(0, 0, 1, 0, 0);
        for (int round = 0; round < 2; round++) {
            Check.due(x, 1, "from", 0);
            Check.due(x, 8, "count", 5);
            for (int i = 9; i >= 2; i--) {
                Check.due(x, 1, "undo");
                Check.due(x, i, "of", 0, 1);
            }
            Check.due(x, -3, "undo");
            Check.due(x, 1, "from", 1);
            Check.due(x, 5, "count", 5);
            for (int i = 6; i >= 2; i--) {
                Check.due(x, 1, "undo");
                Check.due(x, i, "of", 0, 1);
            }
            Check.due(x, -3, "undo");
        }
        Check.due(x, 1, "from", 1);
        x.move(0, 63);
        x.light(0, 0);
        Check.due(x, 7, "count", 5);
        Check.due(x, 1, "from", 1);
        Check.due(x, 5, "count", 5);
        Check.due(x, 7, "of", 0, 1);
        Check.due(x, 1, "undo");
        Check.due(x, 6, "of", 0, 1);
    }

    private static void status() {
        Check.says("STATUS: how many calls were refused as BAD, NO, FULL (each answer told so below is such a one).");
        CandleLand x = new CandleLand();
        int[][] off = {{}, {-1}, {-1, 0}, {-1, 0, 0}, {-1, 0, 0, 0}, {-1, 0, 0, 0, 0}};
        String[] calls = {"valley", "fog", "type", "want", "burn", "measure", "part", "image", "from", "status", "count",
            "move", "light", "of", "hedges", "lighting", "tallow", "put", "shines", "cell", "acres", "dark", "wedding",
            "reading", "spite", "draught", "nights", "candle", "thief"};
        int[] numbers = {1, 1, 1, 1, 1, 1, 1, 1, 1, 1, 1, 2, 2, 2, 2, 2, 2, 2, 3, 3, 3, 3, 3, 3, 4, 4, 4, 5, 5};
        for (int i = 0; i < calls.length; i++) {
            Calls.answer(x, calls[i], off[numbers[i]]);
            Check.refused(x, i + 1, 0, 0);
        }
        Check.says("-1: another what (counts as BAD).");
        x = new CandleLand();
        int bad = 0;
        for (int what : new int[] {3, -1, 4, Integer.MIN_VALUE, Integer.MAX_VALUE}) {
            Check.due(x, -1, "status", what);
            bad++;
            Check.refused(x, bad, 0, 0);
        }
        Check.says("An object is used for at most 512 calls after it has been made");
        x = new CandleLand();
        for (int i = 0; i < 170; i++) {
            Check.due(x, -2, "count", 7);
            Check.due(x, -3, "undo");
            Check.due(x, i < 150 ? i + 1 : -4, "type", ';');
        }
        Check.due(x, 170, "status", 0);
        Check.due(x, 20, "status", 2);
        x = new CandleLand();
        for (int i = 1; i < Calls.MOST; i++) {
            Check.due(x, -3, "from", 1);
        }
        Check.due(x, Calls.MOST - 1, "status", 1);
    }

    private static void count() {
        Check.says("How many: 0 CANDLES, 1 FOG, 2 CANDLES LIT (bits), 3 WANTED, 4 READINGS, 5 that may be undone, "
                + "6 bytes of THE TEXT. BAD.");
        CandleLand x = full();
        int[] most = {7, 9, 127, 6, 6, 8, 150};
        for (int what = 0; what <= 6; what++) {
            Check.due(x, most[what], "count", what);
        }
        Check.due(x, -2, "count", 7);
        Check.due(x, -2, "count", -1);
        Check.refused(x, 2, 0, 0);
    }

    /** As much of all as there may be. */
    private static CandleLand full() {
        CandleLand x = with(7);
        for (int i = 0; i < 6; i++) {
            Check.due(x, i + 1, "want", 63 - i);
            Check.due(x, i + 1, "reading", 50 + i, 11 - i, 23 - i);
        }
        for (int i = 0; i < 4; i++) {
            Check.due(x, 1, "light", 6, 0);
            Check.due(x, 1, "light", 6, 1);
        }
        Check.due(x, 1, "draught", 0, 0, 20, 3);
        Check.due(x, 0, "fog", 9);
        for (int i = 0; i < 150; i++) {
            Check.due(x, i + 1, "type", 127);
        }
        return x;
    }

    private static void digest() {
        Check.says("h = 991; then h = 31 h + v for each v: count(0) to count(6); of CANDLES KIND, CELL, HEIGHT, OWNER, "
                + "TALLOW; WANTED; of READINGS CELL, HOUR, v; THE FRACTION.");
        long[] values = {7, 9, 127, 6, 6, 8, 150, 0, 0, 20, 0, 12, 1, 1, 19, 1, 11, 2, 2, 18, 2, 10, 3, 3, 17, 3, 9,
            4, 4, 16, 0, 8, 5, 5, 15, 1, 7, 0, 6, 14, 2, 6, 63, 62, 61, 60, 59, 58, 50, 11, 23, 51, 10, 22, 52, 9, 21,
            53, 8, 20, 54, 7, 19, 55, 6, 18, 91, 100};
        BigInteger h = BigInteger.valueOf(991);
        for (long v : values) {
            h = h.multiply(BigInteger.valueOf(31)).add(BigInteger.valueOf(v));
        }
        CandleLand x = full();
        Check.fraction(x, 91, 100);
        // what a long holds of it
        Check.due(x, h.longValue(), "digest");
        Check.due(x, h.longValue(), "digest");
        Check.refused(x, 0, 0, 0);
    }

    public static void main(String[] args) {
        newObject();
        valley();
        fog();
        moveAndLight();
        undo();
        images();
        status();
        count();
        digest();
        Check.end();
    }
}
