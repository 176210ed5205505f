/** The edges of the Terms: cells, hours, fog, candles and their kinds, how light a cell is, whose it is. */
public final class LightEdgeTests {
    private static final int HIGHEST = 20;

    /** A land with one candle, number 0, of owner 0. */
    private static CandleLand with(int kind, int cell, int height, int tallow) {
        CandleLand x = new CandleLand();
        Check.due(x, 0, "candle", kind, cell, height, 0, tallow);
        return x;
    }

    private static void cells() {
        Check.says("CELL c lies in column c by 8 left over, row c by 8 (cut)");
        CandleLand x = with(0, 0, HIGHEST, 12);
        Check.due(x, 20, "shines", 0, 0, 0);
        Check.due(x, 13, "shines", 0, 7, 0);
        Check.due(x, 19, "shines", 0, 8, 0);
        Check.due(x, 13, "shines", 0, 56, 0);
        Check.due(x, 6, "shines", 0, 63, 0);
        Check.due(x, 0, "move", 0, 7);
        Check.due(x, 12, "shines", 0, 8, 0);
        Check.due(x, 6, "shines", 0, 56, 0);
        Check.due(x, 7, "move", 0, 63);
        Check.due(x, 6, "shines", 0, 0, 0);
        Check.due(x, 19, "shines", 0, 62, 0);
        Check.due(x, 19, "shines", 0, 55, 0);
        Check.due(x, 12, "shines", 0, 48, 0);
        Check.says("FAR from one to another is columns and rows between, together.");
        for (int row = 0; row < 8; row++) {
            for (int column = 0; column < 8; column++) {
                farFromOne(row, column);
            }
        }
    }

    private static void farFromOne(int row, int column) {
        CandleLand x = with(0, 8 * row + column, HIGHEST, 12);
        for (int r = 0; r < 8; r++) {
            for (int c = 0; c < 8; c++) {
                int far = Math.max(r, row) - Math.min(r, row) + Math.max(c, column) - Math.min(c, column);
                Check.due(x, HIGHEST - far, "shines", 0, 8 * r + c, 0);
            }
        }
    }

    private static void candlesAsTheyCome() {
        Check.says("CANDLES 0 .. 6, as they come: a KIND, a CELL, HEIGHT (1 .. 20), an OWNER (0 .. 3), TALLOW (0 .. 12); "
                + "each LIT at first.");
        CandleLand x = new CandleLand();
        Check.due(x, 0, "count", 0);
        for (int k = 0; k < 7; k++) {
            Check.due(x, k, "candle", k % 6, 60 - k, 20 - k, k % 4, 12 - k);
            Check.due(x, k + 1, "count", 0);
        }
        for (int k = 0; k < 7; k++) {
            int[] told = {k % 6, 60 - k, 20 - k, k % 4, 12 - k, 1};
            for (int what = 0; what < 6; what++) {
                Check.due(x, told[what], "of", k, what);
            }
        }
        Check.due(x, -4, "candle", 0, 0, 1, 0, 0);
        Check.due(x, 7, "count", 0);
        Check.says("each LIT at first.");
        x = new CandleLand();
        for (int k = 0; k < 7; k++) {
            Check.due(x, k, "candle", 0, 0, 1, 0, 0);
            Check.due(x, 1, "of", k, 5);
            Check.due(x, 1, "light", k, 0);
            Check.due(x, 0, "of", k, 5);
            Check.due(x, 0, "count", 2);
        }
        Check.due(x, 7, "valley", 0);
        Check.due(x, 0, "candle", 0, 0, 1, 0, 0);
        Check.due(x, 1, "of", 0, 5);
    }

    /** Light of the least and the most height as far as 0, 1, ..; a last number told goes on. */
    private static void strengths(int kind, int[] least, int[] most) {
        CandleLand low = with(kind, 0, 1, 12);
        CandleLand high = with(kind, 0, HIGHEST, 12);
        for (int far = 0; far <= 14; far++) {
            int cell = far <= 7 ? far : 8 * (far - 7) + 7;
            Check.due(low, least[Math.min(far, least.length - 1)], "shines", 0, cell, 0);
            Check.due(high, most[Math.min(far, most.length - 1)], "shines", 0, cell, 0);
        }
    }

    private static void kindsByHeight() {
        Check.says("0 CANDLE: HEIGHT less d, 0 at least");
        strengths(0, new int[] {1, 0}, new int[] {20, 19, 18, 17, 16, 15, 14, 13, 12, 11, 10, 9, 8, 7, 6});
        Check.says("1 WICK (under CANDLE): 3 more, where it is above 0");
        strengths(1, new int[] {4, 0}, new int[] {23, 22, 21, 20, 19, 18, 17, 16, 15, 14, 13, 12, 11, 10, 9});
        Check.says("2 LAMP (under CANDLE): as CANDLE as FAR as 2 less (0 at least)");
        strengths(2, new int[] {1, 1, 1, 0}, new int[] {20, 20, 20, 19, 18, 17, 16, 15, 14, 13, 12, 11, 10, 9, 8});
        Check.says("3 LANTERN (under LAMP): as LAMP");
        strengths(3, new int[] {1, 1, 1, 0}, new int[] {20, 20, 20, 19, 18, 17, 16, 15, 14, 13, 12, 11, 10, 9, 8});
        Check.says("4 GUTTERS (under WICK): half (cut) of WICK");
        strengths(4, new int[] {2, 0}, new int[] {11, 11, 10, 10, 9, 9, 8, 8, 7, 7, 6, 6, 5, 5, 4});
        Check.says("5 STAR (under CANDLE): 1, where CANDLE is above 0");
        strengths(5, new int[] {1, 0}, new int[] {1});
    }

    /** At the last step that a height of 14 and of 15 reaches: the far corner. */
    private static void farthestCorner() {
        int[][] lights = {{0, 1}, {0, 4}, {2, 3}, {2, 3}, {0, 2}, {0, 1}};
        String[] told = {"HEIGHT less d, 0 at least", "3 more, where it is above 0", "as FAR as 2 less (0 at least)",
            "3 LANTERN (under LAMP): as LAMP", "half (cut) of WICK", "1, where CANDLE is above 0"};
        for (int kind = 0; kind < 6; kind++) {
            Check.says(told[kind]);
            Check.due(with(kind, 0, 14, 12), lights[kind][0], "shines", 0, 63, 0);
            Check.due(with(kind, 0, 15, 12), lights[kind][1], "shines", 0, 63, 0);
        }
        Check.due(with(2, 0, 12, 12), 0, "shines", 0, 63, 0);
        Check.due(with(2, 0, 13, 12), 1, "shines", 0, 63, 0);
    }

    private static void kindsByTallow() {
        int[] tallows = {0, 1, 2, 3, 5, 6, 11, 12};
        int[][] hours = {{0, 1, 2, 3, 5, 6, 11, 12}, {0, 0, 1, 1, 2, 3, 5, 6}, {0, 1, 2, 3, 5, 6, 11, 12},
            {0, 2, 4, 6, 10, 12, 22, 24}, {2, 2, 3, 3, 4, 5, 7, 8}, {12, 12, 12, 12, 12, 12, 12, 12}};
        String[] told = {"HEIGHT less d, 0 at least; TALLOW.", "half (cut) of CANDLE.", "as CANDLE.", "twice LAMP.",
            "2 more than WICK.", "1, where CANDLE is above 0; 12."};
        for (int kind = 0; kind < 6; kind++) {
            Check.says(told[kind]);
            for (int i = 0; i < tallows.length; i++) {
                Check.due(with(kind, 0, 1, tallows[i]), hours[kind][i], "of", 0, 6);
            }
            Check.says("KINDS, each under the one told, say how strong its LIGHT is as FAR as d, for how many HOURS it burns");
            Check.due(with(kind, 0, 1, 12), hours[kind][tallows.length - 1], "of", 0, 6);
            Check.due(with(kind, 63, HIGHEST, 12), hours[kind][tallows.length - 1], "of", 0, 6);
            Check.says("and burns (h is less than its HOURS); else 0.");
            for (int i = 0; i < tallows.length; i++) {
                CandleLand x = with(kind, 0, HIGHEST, tallows[i]);
                for (int h = 0; h < 12; h++) {
                    boolean dark = Calls.answer(x, "shines", 0, 0, h) == 0;
                    Check.due(x, dark ? -1 : 0, "cell", 0, h, 1);
                    if (dark != (h >= hours[kind][i])) {
                        Check.fail("kind " + kind + ", tallow " + tallows[i] + ", hour " + h);
                    }
                }
            }
        }
    }

    /** What a candle is told by, and its hours, are alike lit or out, in any fog, wherever it is. */
    private static void whatIsOfACandle() {
        Check.says("Of a CANDLE: KIND (0), CELL (1), HEIGHT (2), OWNER (3), TALLOW (4), whether LIT (5; 1, 0), "
                + "for how many HOURS it burns (6).");
        int[] hours = {11, 5, 11, 22, 7, 12};
        for (int kind = 0; kind < 6; kind++) {
            for (int out = 0; out < 2; out++) {
                CandleLand x = new CandleLand();
                x.candle(kind, 40, 7, 3, 11);
                x.fog(9);
                x.move(0, 41 + kind);
                if (out == 1) {
                    x.light(0, 0);
                }
                int[] told = {kind, 41 + kind, 7, 3, 11, 1 - out, hours[kind]};
                for (int what = 0; what < 7; what++) {
                    Check.due(x, told[what], "of", 0, what);
                }
            }
        }
    }

    private static void fog() {
        Check.says("FOG (0 .. 9; 0 at first)");
        CandleLand x = with(0, 0, 9, 12);
        Check.due(x, 0, "count", 1);
        Check.due(x, 9, "shines", 0, 0, 0);
        Check.due(x, 0, "fog", 9);
        Check.due(x, 9, "fog", 0);
        Check.due(x, 0, "count", 1);
        Check.says("that, less FOG, 0 at least, if it is LIT");
        for (int fog = 0; fog <= 9; fog++) {
            x = with(0, 0, 5, 12);
            Check.due(x, 0, "fog", fog);
            Check.due(x, Math.max(0, 5 - fog), "shines", 0, 0, 0);
            Check.due(x, Math.max(0, 5 - fog), "cell", 0, 0, 0);
            Check.due(x, fog < 5 ? 0 : -1, "cell", 0, 0, 1);
            Check.due(x, Math.max(0, 3 - fog), "shines", 0, 9, 0);
        }
        x = with(1, 0, 1, 12);
        Check.due(x, 0, "fog", 3);
        Check.due(x, 1, "shines", 0, 0, 0);
        Check.due(x, 0, "shines", 0, 1, 0);
        Check.due(x, 3, "fog", 4);
        Check.due(x, 0, "shines", 0, 0, 0);
        x = with(4, 0, HIGHEST, 12);
        Check.due(x, 0, "fog", 9);
        Check.due(x, 2, "shines", 0, 0, 0);
        x = with(5, 0, HIGHEST, 12);
        Check.due(x, 0, "fog", 1);
        Check.due(x, 0, "shines", 0, 0, 0);
        x = with(1, 0, HIGHEST, 12);
        Check.due(x, 0, "fog", 9);
        Check.due(x, 14, "shines", 0, 0, 0);
    }

    private static void litOrOut() {
        Check.says("LIGHT of a CANDLE in a CELL, in HOUR h: that, less FOG, 0 at least, if it is LIT, and burns (h is less than "
                + "its HOURS); else 0.");
        CandleLand x = with(0, 27, 6, 3);
        Check.due(x, 6, "shines", 0, 27, 2);
        Check.due(x, 0, "shines", 0, 27, 3);
        Check.due(x, 1, "light", 0, 0);
        Check.due(x, 0, "shines", 0, 27, 0);
        Check.due(x, 0, "shines", 0, 27, 2);
        Check.due(x, 0, "cell", 27, 0, 0);
        Check.due(x, 1, "light", 0, 1);
        Check.due(x, 6, "shines", 0, 27, 0);
    }

    private static void strongest() {
        Check.says("A CELL is as LIGHT as the strongest one there.");
        CandleLand x = new CandleLand();
        for (int cell = 0; cell < 64; cell += 63) {
            Check.due(x, 0, "cell", cell, 0, 0);
            Check.due(x, 0, "cell", cell, 11, 0);
        }
        x.candle(0, 0, 3, 0, 12);
        x.candle(0, 0, 9, 1, 12);
        x.candle(0, 0, 5, 2, 12);
        Check.due(x, 9, "cell", 0, 0, 0);
        Check.due(x, 1, "light", 1, 0);
        Check.due(x, 5, "cell", 0, 0, 0);
        Check.due(x, 1, "light", 2, 0);
        Check.due(x, 3, "cell", 0, 0, 0);
        Check.due(x, 1, "light", 0, 0);
        Check.due(x, 0, "cell", 0, 0, 0);
        x = with(1, 63, HIGHEST, 12);
        Check.due(x, 23, "cell", 63, 0, 0);
    }

    private static void owners() {
        Check.says("It is an OWNER's, whose strongest one is stronger than that of any other");
        for (int o = 0; o < 4; o++) {
            CandleLand x = new CandleLand();
            x.candle(0, 0, 5, o, 12);
            x.candle(0, 0, 4, (o + 1) % 4, 12);
            Check.due(x, o, "cell", 0, 0, 1);
            Check.due(x, 0, "cell", 0, 0, 2);
        }
        CandleLand two = new CandleLand();
        two.candle(0, 0, 5, 3, 12);
        two.candle(0, 0, 5, 3, 12);
        Check.due(two, 3, "cell", 0, 0, 1);
        Check.due(two, 0, "cell", 0, 0, 2);
        two.candle(0, 0, 4, 0, 12);
        two.candle(0, 0, 4, 1, 12);
        Check.due(two, 3, "cell", 0, 0, 1);
        Check.due(two, 0, "cell", 0, 0, 2);
        Check.says("if it is dark (0), or two OWNERS are alike strong, it is nobody's (in the latter case a HEDGE).");
        CandleLand x = new CandleLand();
        Check.due(x, -1, "cell", 0, 0, 1);
        Check.due(x, 0, "cell", 0, 0, 2);
        x.candle(0, 0, 5, 0, 1);
        x.candle(0, 0, 5, 1, 2);
        x.candle(0, 0, 5, 2, 3);
        x.candle(0, 0, 6, 3, 4);
        x.light(3, 0);
        Check.due(x, -1, "cell", 0, 0, 1);
        Check.due(x, 1, "cell", 0, 0, 2);
        Check.due(x, -1, "cell", 0, 1, 1);
        Check.due(x, 1, "cell", 0, 1, 2);
        Check.due(x, 2, "cell", 0, 2, 1);
        Check.due(x, 0, "cell", 0, 2, 2);
        Check.due(x, -1, "cell", 0, 3, 1);
        Check.due(x, 0, "cell", 0, 3, 2);
        x.light(3, 1);
        Check.due(x, 3, "cell", 0, 0, 1);
        Check.due(x, 0, "cell", 0, 0, 2);
        x.fog(5);
        Check.due(x, 3, "cell", 0, 0, 1);
        x.fog(6);
        Check.due(x, -1, "cell", 0, 0, 1);
        Check.due(x, 0, "cell", 0, 0, 2);
    }

    /** Three that are alike strong, in each order beside a weaker and a stronger one. */
    private static void hedgesInAnyOrder() {
        Check.says("or two OWNERS are alike strong");
        int[][] heights = {{5, 5, 4}, {5, 4, 5}, {4, 5, 5}, {5, 5, 5}, {6, 5, 5}, {5, 6, 5}, {5, 5, 6}, {4, 5, 6},
            {6, 5, 4}};
        int[] whose = {-1, -1, -1, -1, 0, 1, 2, 2, 0};
        for (int i = 0; i < heights.length; i++) {
            CandleLand x = new CandleLand();
            for (int o = 0; o < 3; o++) {
                x.candle(0, 63, heights[i][o], o, 12);
            }
            Check.due(x, whose[i], "cell", 63, 11, 1);
            Check.due(x, whose[i] == -1 ? 1 : 0, "cell", 63, 11, 2);
        }
        CandleLand own = new CandleLand();
        own.candle(0, 0, 5, 0, 12);
        own.candle(0, 0, 5, 1, 12);
        own.candle(0, 0, 5, 0, 12);
        Check.due(own, 1, "cell", 0, 0, 2);
        own.candle(0, 0, 7, 0, 12);
        Check.due(own, 0, "cell", 0, 0, 1);
        own.candle(0, 0, 7, 0, 12);
        Check.due(own, 0, "cell", 0, 0, 1);
    }

    public static void main(String[] args) {
        cells();
        candlesAsTheyCome();
        kindsByHeight();
        farthestCorner();
        kindsByTallow();
        whatIsOfACandle();
        fog();
        litOrOut();
        strongest();
        owners();
        hedgesInAnyOrder();
        Check.end();
    }
}
