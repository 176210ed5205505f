/** The edges of whose it is and what to do: acres, hedges, the dark, lighting, a place, a thief, a wedding, spite. */
public final class AskEdgeTests {
    private static final int MOST = Integer.MAX_VALUE;

    /** Candles as rows of kind, cell, height, owner, tallow. */
    private static CandleLand with(int[]... candles) {
        CandleLand x = new CandleLand();
        for (int k = 0; k < candles.length; k++) {
            Check.due(x, k, "candle", candles[k]);
        }
        return x;
    }

    private static void acres() {
        Check.says("ACRES: how many (i = NONE), the i-th CELL. -5: not so many. BAD: -10.");
        CandleLand x = new CandleLand();
        for (int o = 0; o < 4; o++) {
            Check.due(x, 0, "acres", o, 0, -1);
            Check.due(x, -5, "acres", o, 11, 0);
            Check.due(x, -10, "acres", o, 11, -2);
        }
        Check.refused(x, 4, 0, 0);
        Check.says("ACRES of an OWNER, HEDGES in an HOUR: how many; the i-th CELL.");
        x = with(new int[] {5, 0, 15, 3, 0});
        Check.due(x, 64, "acres", 3, 11, -1);
        for (int c = 0; c < 64; c++) {
            Check.due(x, c, "acres", 3, 11, c);
        }
        Check.due(x, -5, "acres", 3, 11, 64);
        Check.due(x, -5, "acres", 3, 11, MOST);
        Check.due(x, 0, "acres", 2, 11, -1);
        x = with(new int[] {5, 0, 14, 3, 0});
        Check.due(x, 63, "acres", 3, 0, -1);
        Check.due(x, 62, "acres", 3, 0, 62);
        Check.due(x, -5, "acres", 3, 0, 63);
        x = with(new int[] {0, 63, 1, 0, 12});
        Check.due(x, 1, "acres", 0, 0, -1);
        Check.due(x, 63, "acres", 0, 0, 0);
        Check.due(x, -5, "acres", 0, 0, 1);
        x.light(0, 0);
        Check.due(x, 0, "acres", 0, 0, -1);
        Check.due(x, -5, "acres", 0, 0, 0);
        Check.refused(x, 0, 0, 0);
    }

    private static void hedges() {
        Check.says("HEDGES: likewise.");
        CandleLand x = new CandleLand();
        Check.due(x, 0, "hedges", 0, -1);
        Check.due(x, -5, "hedges", 0, 0);
        Check.due(x, -10, "hedges", 0, -2);
        Check.due(x, -10, "hedges", 12, 0);
        Check.refused(x, 2, 0, 0);
        x = with(new int[] {5, 0, 15, 3, 0}, new int[] {5, 63, 15, 0, 0});
        Check.due(x, 64, "hedges", 11, -1);
        for (int c = 0; c < 64; c++) {
            Check.due(x, c, "hedges", 11, c);
        }
        Check.due(x, -5, "hedges", 11, 64);
        Check.due(x, -5, "hedges", 11, MOST);
        Check.due(x, 0, "acres", 0, 0, -1);
        Check.due(x, 0, "acres", 3, 0, -1);
        x = with(new int[] {0, 63, 1, 0, 1}, new int[] {0, 63, 1, 1, 2}, new int[] {0, 63, 1, 1, 3});
        Check.due(x, 1, "hedges", 0, -1);
        Check.due(x, 63, "hedges", 0, 0);
        Check.due(x, -5, "hedges", 0, 1);
        Check.due(x, 0, "hedges", 1, -1);
        Check.due(x, 1, "acres", 1, 1, -1);
        Check.refused(x, 0, 0, 0);
        hedgesInFog();
        cellByCell();
    }

    /** Acres and hedges are those cells of which cell says so, in their order. */
    private static void cellByCell() {
        Check.says("ACRES: CELLS of an OWNER.");
        for (int hour : new int[] {0, 2, 5, 11}) {
            int[] seen = new int[5];
            int[][] due = new int[5][64];
            CandleLand x = ofAllKinds();
            for (int c = 0; c < 64; c++) {
                boolean hedge = Calls.answer(x, "cell", c, hour, 2) == 1;
                int who = hedge ? 4 : (int) Calls.answer(x, "cell", c, hour, 1);
                if (who >= 0) {
                    due[who][seen[who]] = c;
                    seen[who]++;
                }
            }
            x = ofAllKinds();
            for (int i = 0; i < seen[4]; i++) {
                Check.due(x, due[4][i], "hedges", hour, i);
            }
            Check.due(x, seen[4], "hedges", hour, -1);
            Check.due(x, -5, "hedges", hour, seen[4]);
            for (int o = 0; o < 4; o++) {
                Check.due(x, seen[o], "acres", o, hour, -1);
                Check.due(x, -5, "acres", o, hour, seen[o]);
                for (int i = 0; i < seen[o]; i++) {
                    Check.due(x, due[o][i], "acres", o, hour, i);
                }
            }
        }
    }

    private static CandleLand ofAllKinds() {
        return with(new int[] {0, 9, 8, 0, 6}, new int[] {1, 14, 5, 1, 10}, new int[] {2, 49, 6, 2, 3},
                new int[] {3, 54, 7, 3, 2}, new int[] {4, 27, 13, 0, 8}, new int[] {5, 63, 12, 1, 0},
                new int[] {0, 36, 7, 2, 12});
    }

    private static void hedgesInFog() {
        Check.says("ACRES of an OWNER, HEDGES in an HOUR: how many; the i-th CELL.");
        CandleLand x = with(new int[] {0, 0, 3, 0, 12}, new int[] {0, 2, 3, 1, 12});
        Check.due(x, 2, "hedges", 0, -1);
        Check.due(x, 1, "hedges", 0, 0);
        Check.due(x, 9, "hedges", 0, 1);
        Check.due(x, 3, "acres", 0, 0, -1);
        x.fog(1);
        Check.due(x, 1, "hedges", 0, -1);
        Check.due(x, 1, "hedges", 0, 0);
        Check.due(x, 2, "acres", 0, 0, -1);
        x.fog(2);
        Check.due(x, 0, "hedges", 0, -1);
        Check.due(x, 1, "acres", 0, 0, -1);
        x.fog(3);
        Check.due(x, 0, "acres", 0, 0, -1);
    }

    private static void dark() {
        Check.says("DARK of a CELL: the first HOUR (0 .. 12) from an HOUR on in which it is less LIGHT than n");
        CandleLand x = with(new int[] {0, 5, 20, 0, 12});
        Check.due(x, 12, "dark", 5, 0, 20);
        Check.due(x, 12, "dark", 5, 11, 20);
        Check.due(x, 0, "dark", 6, 0, 20);
        Check.due(x, 12, "dark", 6, 0, 19);
        Check.due(x, 7, "dark", 6, 7, 20);
        x = with(new int[] {0, 5, 20, 0, 11});
        Check.due(x, 11, "dark", 5, 0, 20);
        Check.due(x, 11, "dark", 5, 10, 20);
        Check.due(x, 11, "dark", 5, 11, 1);
        x = with(new int[] {0, 5, 20, 0, 1}, new int[] {0, 5, 10, 1, 4});
        Check.due(x, 1, "dark", 5, 0, 11);
        Check.due(x, 4, "dark", 5, 0, 10);
        Check.due(x, 4, "dark", 5, 3, 1);
        Check.due(x, 5, "dark", 5, 5, 1);
        Check.due(x, 1, "dark", 56, 0, 8);
        Check.due(x, 0, "dark", 56, 0, 9);
        Check.says("in HOUR 12 all is dark");
        x = with(new int[] {3, 0, 20, 0, 12});
        Check.due(x, 24, "of", 0, 6);
        Check.due(x, 12, "dark", 0, 0, 1);
        Check.due(x, 12, "dark", 0, 11, 1);
        x.fog(1);
        Check.due(x, 12, "dark", 0, 0, 19);
        Check.due(x, 0, "dark", 0, 0, 20);
        x.light(0, 0);
        Check.due(x, 11, "dark", 0, 11, 1);
    }

    private static void wanted() {
        Check.says("WANTED 0 .. 5, as they come: CELLS.");
        CandleLand x = new CandleLand();
        Check.due(x, 0, "count", 3);
        for (int i = 1; i <= 6; i++) {
            Check.due(x, i, "want", i % 2 == 0 ? 63 : 0);
            Check.due(x, i, "count", 3);
        }
        Check.due(x, -4, "want", 5);
        Check.due(x, Check.mixed(0, 0, 0, 6, 0, 0, 0, 0, 63, 0, 63, 0, 63, 0, 1), "digest");
        Check.refused(x, 0, 0, 1);
        Check.says("`int forget()`: No WANTED: how many there were.");
        Check.due(x, 6, "forget");
        Check.due(x, 0, "count", 3);
        Check.due(x, 0, "forget");
        Check.due(x, 1, "want", 63);
        Check.due(x, 1, "forget");
        Check.refused(x, 0, 0, 1);
    }

    private static void lighting() {
        Check.says("by which all WANTED are LIGHT by n or more; none.");
        CandleLand x = new CandleLand();
        Check.due(x, 0, "lighting", 0, 1);
        Check.due(x, 0, "lighting", 11, 20);
        x.want(0);
        Check.due(x, -1, "lighting", 0, 1);
        x.candle(0, 0, 7, 0, 2);
        Check.due(x, 1, "lighting", 0, 7);
        Check.due(x, -1, "lighting", 0, 8);
        Check.due(x, 1, "lighting", 1, 7);
        Check.due(x, -1, "lighting", 2, 7);
        x.fog(1);
        Check.due(x, 1, "lighting", 0, 6);
        Check.due(x, -1, "lighting", 0, 7);
        x.want(1);
        Check.due(x, 1, "lighting", 0, 5);
        Check.due(x, -1, "lighting", 0, 6);
        x.light(0, 0);
        Check.due(x, 1, "lighting", 0, 5);
        x.forget();
        Check.due(x, 0, "lighting", 0, 20);
        Check.refused(x, 0, 0, 0);
        Check.says("the fewest CANDLES LIT (bits; of like ones the least), all others out");
        x = with(new int[] {0, 0, 1, 0, 12}, new int[] {0, 63, 1, 0, 12}, new int[] {5, 0, 15, 0, 12});
        x.want(0);
        x.want(63);
        Check.due(x, 4, "lighting", 0, 1);
        x = with(new int[] {0, 0, 1, 0, 1}, new int[] {0, 0, 1, 0, 12}, new int[] {0, 63, 1, 0, 12},
                new int[] {0, 63, 1, 0, 1});
        x.want(0);
        x.want(63);
        Check.due(x, 5, "lighting", 0, 1);
        Check.due(x, 6, "lighting", 1, 1);
        sixNeeded();
    }

    private static void sixNeeded() {
        CandleLand x = with(new int[] {0, 1, 1, 0, 12}, new int[] {0, 10, 1, 0, 12}, new int[] {0, 20, 1, 0, 12},
                new int[] {0, 30, 1, 0, 12}, new int[] {0, 40, 1, 0, 12}, new int[] {0, 50, 1, 0, 12},
                new int[] {0, 63, 1, 0, 12});
        int[] cells = {63, 50, 40, 30, 20, 10};
        int[] sets = {64, 96, 112, 120, 124, 126};
        for (int i = 0; i < 6; i++) {
            x.want(cells[i]);
            Check.due(x, sets[i], "lighting", 11, 1);
            Check.due(x, 12 * (i + 1), "tallow", 11, 1);
            Check.due(x, -1, "lighting", 11, 2);
            Check.due(x, -1, "tallow", 11, 2);
        }
    }

    private static void tallow() {
        Check.says("TALLOW LEAST: those by whose TALLOW told, together, it is least; of like ones the least bits: how much; none.");
        CandleLand x = new CandleLand();
        Check.due(x, 0, "tallow", 0, 1);
        x.want(0);
        Check.due(x, -1, "tallow", 0, 1);
        x.candle(1, 0, 9, 0, 12);
        Check.due(x, 12, "tallow", 5, 12);
        Check.due(x, -1, "tallow", 5, 13);
        Check.due(x, -1, "tallow", 6, 1);
        x.candle(3, 0, 9, 0, 5);
        Check.due(x, 5, "tallow", 9, 9);
        Check.due(x, -1, "tallow", 10, 9);
        Check.due(x, 12, "tallow", 0, 10);
        x.candle(4, 0, 1, 0, 0);
        Check.due(x, 0, "tallow", 1, 2);
        Check.due(x, 5, "tallow", 2, 2);
        x.candle(5, 0, 1, 0, 0);
        Check.due(x, 0, "tallow", 11, 1);
        x.light(3, 0);
        Check.due(x, 0, "tallow", 11, 1);
        Check.refused(x, 0, 0, 0);
        x = with(new int[] {0, 0, 1, 0, 3}, new int[] {0, 63, 1, 0, 4}, new int[] {5, 0, 15, 0, 8});
        x.want(0);
        x.want(63);
        Check.due(x, 7, "tallow", 0, 1);
        Check.due(x, 4, "lighting", 0, 1);
        Check.due(x, 8, "tallow", 3, 1);
    }

    private static void put() {
        Check.says("PUT a CANDLE: the CELL (0 .. 63) where it brings its OWNER most ACRES in an HOUR");
        CandleLand x = with(new int[] {0, 30, 1, 0, 12}, new int[] {5, 0, 14, 1, 12});
        Check.due(x, 63, "put", 0, 0);
        Check.due(x, 63, "put", 0, 11);
        x.light(1, 0);
        Check.due(x, 0, "put", 0, 0);
        x.candle(5, 63, 14, 1, 12);
        Check.due(x, 0, "put", 0, 0);
        x.candle(0, 0, 1, 2, 12);
        Check.due(x, 0, "put", 0, 0);
        x.fog(1);
        Check.due(x, 0, "put", 0, 0);
        Check.says("of like ones the first.");
        x = with(new int[] {0, 63, 1, 0, 1}, new int[] {0, 0, 1, 0, 12}, new int[] {0, 1, 1, 1, 12});
        Check.due(x, 2, "put", 0, 0);
        Check.due(x, 0, "put", 0, 1);
        Check.due(x, 1, "put", 2, 11);
        Check.due(x, 1, "put", 2, 0);
        x = with(new int[] {0, 63, 20, 0, 12});
        Check.due(x, 0, "put", 0, 0);
        x = with(new int[] {0, 63, 2, 0, 12});
        Check.due(x, 9, "put", 0, 0);
        x = with(new int[] {0, 63, 8, 0, 12});
        Check.due(x, 27, "put", 0, 0);
        x.light(0, 0);
        Check.due(x, 0, "put", 0, 0);
        Check.due(x, 63, "of", 0, 1);
        Check.refused(x, 0, 0, 0);
        putAmongOthers();
    }

    /** The others shine as they do in that hour and fog; the candle itself may have been anywhere. */
    private static void putAmongOthers() {
        Check.says("PUT a CANDLE: the CELL (0 .. 63) where it brings its OWNER most ACRES in an HOUR");
        for (int owner = 0; owner < 2; owner++) {
            CandleLand x = with(new int[] {0, 63, 1, 0, 12}, new int[] {0, 0, 1, owner, 1});
            Check.due(x, 1, "put", 0, 0);
            Check.due(x, 0, "put", 0, 1);
            x.light(1, 0);
            Check.due(x, 0, "put", 0, 0);
        }
        CandleLand x = with(new int[] {0, 63, 2, 0, 12}, new int[] {0, 0, 2, 1, 12});
        Check.due(x, 10, "put", 0, 0);
        x.fog(1);
        Check.due(x, 1, "put", 0, 0);
        x.fog(2);
        Check.due(x, 0, "put", 0, 0);
        // six hold the first cells: beside them one more is most
        x = with(new int[] {0, 0, 1, 0, 12}, new int[] {0, 1, 1, 0, 12}, new int[] {0, 2, 1, 1, 12},
                new int[] {0, 3, 1, 1, 12}, new int[] {0, 4, 1, 2, 12}, new int[] {0, 5, 1, 3, 12},
                new int[] {0, 40, 1, 3, 12});
        Check.due(x, 6, "put", 6, 0);
        Check.due(x, 5, "put", 5, 0);
        Check.due(x, 0, "put", 0, 0);
        Check.due(x, 2, "put", 2, 0);
    }

    private static void thief() {
        Check.says("THIEF from a CELL to one in an HOUR: by steps to a CELL beside (one column or one row), through CELLS less LIGHT "
                + "than n (1 .. 20; both ends, too): the fewest steps");
        CandleLand x = new CandleLand();
        Check.due(x, 14, "thief", 0, 63, 0, 1, 0);
        Check.due(x, 8, "thief", 7, 8, 0, 1, 0);
        Check.due(x, 8, "thief", 8, 7, 0, 1, 0);
        Check.due(x, 7, "thief", 0, 7, 0, 1, 0);
        Check.due(x, 7, "thief", 0, 56, 0, 1, 0);
        Check.due(x, 2, "thief", 0, 9, 0, 1, 0);
        Check.due(x, 8, "thief", 55, 56, 0, 1, 0);
        Check.says("the first CELL behind the one he starts from (of like short ways the least; where he starts, if he is there); "
                + "none.");
        Check.due(x, 1, "thief", 0, 63, 0, 1, 1);
        Check.due(x, 6, "thief", 7, 56, 0, 1, 1);
        Check.due(x, 48, "thief", 56, 7, 0, 1, 1);
        Check.due(x, 55, "thief", 63, 0, 0, 1, 1);
        Check.due(x, 6, "thief", 7, 8, 0, 1, 1);
        Check.due(x, 0, "thief", 8, 7, 0, 1, 1);
        Check.due(x, 15, "thief", 7, 63, 0, 1, 1);
        Check.due(x, 57, "thief", 56, 63, 0, 1, 1);
        x = with(new int[] {0, 28, 1, 0, 12}, new int[] {0, 35, 1, 0, 12});
        Check.due(x, 4, "thief", 27, 29, 0, 1, 0);
        Check.due(x, 19, "thief", 27, 29, 0, 1, 1);
        Check.due(x, 4, "thief", 27, 43, 0, 1, 0);
        Check.due(x, 26, "thief", 27, 43, 0, 1, 1);
        x.move(0, 8);
        Check.due(x, 26, "thief", 27, 43, 0, 1, 1);
        x.move(0, 26);
        Check.due(x, 28, "thief", 27, 43, 0, 1, 1);
        Check.says("where he starts, if he is there");
        for (int c : new int[] {0, 7, 56, 63}) {
            Check.due(x, 0, "thief", c, c, 0, 1, 0);
            Check.due(x, c, "thief", c, c, 0, 1, 1);
        }
        thiefInTheLight();
    }

    private static void thiefInTheLight() {
        Check.says("through CELLS less LIGHT than n (1 .. 20; both ends, too)");
        CandleLand x = with(new int[] {0, 0, 1, 0, 2});
        for (int what = 0; what < 2; what++) {
            Check.due(x, -1, "thief", 0, 0, 0, 1, what);
            Check.due(x, -1, "thief", 0, 1, 0, 1, what);
            Check.due(x, -1, "thief", 1, 0, 0, 1, what);
            Check.due(x, 0, "thief", 0, 0, 0, 2, what);
            Check.due(x, 1, "thief", 0, 1, 1, 2, what);
            Check.due(x, 1, "thief", 0, 1, 2, 1, what);
        }
        x = with(new int[] {0, 0, 20, 0, 12});
        Check.due(x, -1, "thief", 0, 63, 0, 20, 0);
        Check.due(x, 13, "thief", 1, 63, 0, 20, 0);
        Check.due(x, -1, "thief", 1, 63, 0, 19, 0);
        Check.due(x, 12, "thief", 9, 63, 0, 19, 0);
        for (int n = 1; n <= 20; n++) {
            // light by 20, 13 and 6
            Check.due(x, -1, "thief", 0, 0, 0, n, 0);
            Check.due(x, n > 13 ? 0 : -1, "thief", 7, 7, 0, n, 0);
            Check.due(x, n > 6 ? 63 : -1, "thief", 63, 63, 0, n, 1);
            Check.due(x, n > 13 ? 7 : -1, "thief", 7, 63, 0, n, 0);
            Check.due(x, n > 13 ? 7 : -1, "thief", 63, 7, 0, n, 0);
        }
        x.fog(1);
        Check.due(x, 14, "thief", 0, 63, 0, 20, 0);
        Check.says("THIEF: how many steps (0), the first CELL (1). NONE. BAD.");
        x = with(new int[] {0, 1, 1, 0, 12}, new int[] {0, 8, 1, 0, 12});
        for (int what = 0; what < 2; what++) {
            Check.due(x, -1, "thief", 0, 63, 0, 1, what);
            Check.due(x, -1, "thief", 63, 0, 0, 1, what);
            Check.due(x, 0, "thief", 0, 0, 0, 1, what);
        }
        x.light(1, 0);
        Check.due(x, 14, "thief", 0, 63, 0, 1, 0);
        Check.due(x, 8, "thief", 0, 63, 0, 1, 1);
        Check.refused(x, 0, 0, 0);
        longWay();
    }

    /** Row 1 is barred but for its last cell, row 6 but for its first. */
    private static void longWay() {
        Check.says("the fewest steps");
        CandleLand x = with(new int[] {0, 8, 1, 0, 12}, new int[] {0, 10, 2, 0, 12}, new int[] {0, 13, 2, 0, 12},
                new int[] {0, 49, 1, 0, 12}, new int[] {0, 51, 2, 0, 12}, new int[] {0, 54, 2, 0, 12});
        Check.due(x, 16, "thief", 6, 57, 0, 1, 0);
        Check.due(x, 7, "thief", 6, 57, 0, 1, 1);
        Check.due(x, 16, "thief", 57, 6, 0, 1, 0);
        Check.due(x, 56, "thief", 57, 6, 0, 1, 1);
        Check.due(x, 12, "thief", 6, 57, 0, 2, 0);
        windingWay();
    }

    /**
     * As short as a way from 8 to 28 (the 2) may be, X being light:
     * <pre>
     * . . . X . . . .
     * 8 X . . . X . .
     * X X X X X X X .
     * . X . . 2 X . .
     * . . . X X . . .
     * . . X X X . . .
     * . X . X . . . .
     * . . . . . . . .
     * </pre>
     */
    private static void windingWay() {
        CandleLand x = with(new int[] {0, 3, 1, 0, 12}, new int[] {0, 21, 2, 1, 12}, new int[] {0, 19, 1, 2, 12},
                new int[] {0, 17, 2, 3, 12}, new int[] {0, 36, 1, 0, 12}, new int[] {0, 43, 2, 1, 12},
                new int[] {0, 49, 1, 2, 12});
        int[] way = {8, 0, 1, 2, 10, 11, 12, 4, 5, 6, 14, 15, 23, 31, 39, 47, 55, 63, 62, 61, 60, 59, 58, 57, 56, 48,
            40, 41, 33, 34, 26, 27, 28};
        for (int i = 0; i < way.length; i++) {
            Check.due(x, way.length - 1 - i, "thief", way[i], 28, 0, 1, 0);
            Check.due(x, i, "thief", way[i], 8, 0, 1, 0);
        }
        Check.due(x, 0, "thief", 8, 28, 0, 1, 1);
        Check.due(x, 27, "thief", 28, 8, 0, 1, 1);
        Check.due(x, 23, "thief", 15, 28, 0, 1, 1);
        Check.due(x, 32, "thief", 40, 28, 0, 1, 1);
        Check.due(x, 33, "thief", 41, 28, 0, 1, 1);
        Check.due(x, 6, "thief", 8, 28, 0, 3, 0);
    }

    private static void wedding() {
        Check.says("WEDDING of two unlike OWNERS in an HOUR: how many ACRES both would have, were both one, more than they have "
                + "apart.");
        CandleLand x = new CandleLand();
        for (int a = 0; a < 4; a++) {
            for (int b = 0; b < 4; b++) {
                Check.due(x, a == b ? -100 : 0, "wedding", a, b, 0);
            }
        }
        Check.refused(x, 4, 0, 0);
        x = with(new int[] {5, 0, 15, 0, 0}, new int[] {5, 63, 15, 3, 0});
        Check.due(x, 64, "wedding", 0, 3, 0);
        Check.due(x, 64, "wedding", 3, 0, 11);
        Check.due(x, 0, "wedding", 0, 1, 0);
        x.candle(5, 0, 14, 1, 0);
        Check.due(x, 1, "wedding", 0, 3, 0);
        Check.due(x, 0, "wedding", 0, 1, 0);
        Check.due(x, 0, "wedding", 1, 2, 0);
        x.light(2, 0);
        Check.due(x, 64, "wedding", 0, 3, 0);
        x.fog(1);
        Check.due(x, 0, "wedding", 0, 3, 0);
        Check.due(x, 3, "count", 2);
        Check.refused(x, 0, 0, 0);
        // two cells and the hedge between, then a hedge that a third is in, too
        x = with(new int[] {0, 0, 2, 1, 12}, new int[] {0, 2, 2, 2, 12}, new int[] {0, 1, 1, 0, 1});
        Check.due(x, 2, "acres", 1, 0, -1);
        Check.due(x, 3, "acres", 2, 0, -1);
        Check.due(x, 0, "wedding", 1, 2, 0);
        Check.due(x, 0, "wedding", 0, 2, 0);
        Check.due(x, 1, "wedding", 1, 2, 1);
        Check.due(x, 1, "wedding", 2, 1, 1);
        // the seventh is in the hedge
        for (int o = 1; o < 4; o++) {
            x = new CandleLand();
            for (int k = 0; k < 6; k++) {
                x.candle(0, 8 * k, 1, 0, 12);
            }
            x.candle(0, 0, 1, o, 12);
            Check.due(x, 1, "wedding", 0, o, 0);
            Check.due(x, 1, "wedding", o, 0, 11);
            Check.due(x, 0, "wedding", 0, o % 3 + 1, 0);
        }
    }

    private static void spite() {
        Check.says("each gets ACRES, less p times how many of the own CANDLES are LIT, by 10 (cut)");
        CandleLand x = new CandleLand();
        Check.due(x, 15, "spite", 0, 1, 0, 0);
        Check.due(x, 15, "spite", 2, 3, 11, 99);
        x.candle(0, 0, 1, 2, 12);
        Check.due(x, 10, "spite", 2, 3, 0, 0);
        x.fog(1);
        Check.due(x, 15, "spite", 2, 3, 0, 0);
        Check.due(x, 5, "spite", 2, 3, 0, 10);
        x.fog(0);
        Check.due(x, 10, "spite", 2, 3, 0, 9);
        Check.due(x, 15, "spite", 2, 3, 0, 10);
        Check.due(x, 15, "spite", 2, 3, 0, 19);
        Check.due(x, 5, "spite", 2, 3, 0, 20);
        Check.due(x, 5, "spite", 2, 3, 0, 99);
        Check.due(x, 12, "spite", 3, 2, 0, 9);
        Check.due(x, 3, "spite", 3, 2, 0, 99);
        x.candle(0, 0, 1, 2, 12);
        x.candle(0, 0, 1, 2, 12);
        Check.due(x, 10, "spite", 2, 3, 0, 3);
        Check.due(x, 15, "spite", 2, 3, 0, 4);
        Check.due(x, 15, "spite", 2, 3, 0, 6);
        Check.due(x, 5, "spite", 2, 3, 0, 7);
        x.light(0, 0);
        x.light(2, 0);
        Check.due(x, 15, "spite", 2, 3, 0, 4);
        Check.due(x, 2, "count", 2);
        Check.refused(x, 0, 0, 0);
        sevenOfOne();
        Check.says("SPITE: two unlike OWNERS a, b in an HOUR, p (0 .. 99): each has all CANDLES LIT or all out (others as they "
                + "are)");
        x = with(new int[] {0, 0, 1, 0, 12}, new int[] {0, 63, 1, 0, 12}, new int[] {0, 0, 1, 1, 12},
                new int[] {0, 63, 1, 2, 12});
        // lit, both of a's are hedged by others; the other's out, one is a's alone
        Check.due(x, 15, "spite", 0, 3, 0, 0);
        x.light(3, 0);
        Check.due(x, 10, "spite", 0, 3, 0, 0);
        x.light(0, 0);
        x.light(1, 0);
        Check.due(x, 10, "spite", 0, 3, 0, 0);
        x.light(2, 0);
        Check.due(x, 10, "spite", 0, 3, 0, 9);
        Check.due(x, 15, "spite", 0, 3, 0, 10);
        Check.due(x, 10, "spite", 0, 1, 0, 0);
        Check.due(x, 0, "count", 2);
        Check.says("pairs that rest (bits: 0 both out, 1 a LIT, 2 b LIT, 3 both; neither would get more by doing "
                + "otherwise)");
        pairs();
    }

    private static void sevenOfOne() {
        CandleLand x = new CandleLand();
        for (int k = 0; k < 7; k++) {
            x.candle(5, 0, 15, 1, 0);
        }
        // 64 acres; 7 at 91 are 63 by 10 (cut), at 92 64, at 93 65
        Check.due(x, 10, "spite", 1, 0, 0, 91);
        Check.due(x, 15, "spite", 1, 0, 0, 92);
        Check.due(x, 5, "spite", 1, 0, 0, 93);
        Check.due(x, 5, "spite", 1, 0, 0, 99);
        Check.due(x, 3, "spite", 0, 1, 0, 99);
    }

    private static void pairs() {
        CandleLand x = with(new int[] {0, 0, 1, 0, 1}, new int[] {0, 0, 1, 1, 12});
        // alike strong in the one cell: lit against lit nobody has it
        Check.due(x, 14, "spite", 0, 1, 0, 0);
        Check.due(x, 7, "spite", 0, 1, 0, 10);
        Check.due(x, 1, "spite", 0, 1, 0, 20);
        Check.due(x, 12, "spite", 0, 1, 1, 0);
        x.candle(0, 0, 2, 2, 12);
        Check.due(x, 1, "spite", 0, 1, 0, 10);
        x.light(2, 0);
        Check.due(x, 7, "spite", 0, 1, 0, 10);
        Check.due(x, 3, "count", 2);
    }

    public static void main(String[] args) {
        acres();
        hedges();
        dark();
        wanted();
        lighting();
        tallow();
        put();
        thief();
        wedding();
        spite();
        Check.end();
    }
}
