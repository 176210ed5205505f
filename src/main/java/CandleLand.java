/** A dark valley of 8 by 8 cells, each fenced by the candlelight that is strongest there. */
public final class CandleLand {
    public static final int NONE = -1, BAD = -2, NO = -3, FULL = -4;

    private static final int SIDE = 8;
    private static final int CELLS = SIDE * SIDE;
    private static final int FARTHEST = 2 * (SIDE - 1);
    private static final int HOURS = 12;
    private static final int MOST_FOG = 9;
    private static final int CANDLES = 7;
    private static final int SETS = 1 << CANDLES;
    private static final int KINDS = 6;
    private static final int OWNERS = 4;
    private static final int MOST_HEIGHT = 20;
    private static final int MOST_TALLOW = 12;
    /** A wick of the most height where it stands: no light is stronger. */
    private static final int MOST_LIGHT = 23;
    /** How light a cell may be asked to be, where 0 would ask for nothing. */
    private static final int MOST_ASKED = 20;
    private static final int WANTS = 6;
    private static final int READINGS = 6;
    private static final int UNDOS = 8;
    private static final int IMAGES = 2;
    private static final int TEXT = 150;
    private static final int MOST_PRICE = 99;
    private static final int MOST_ODDS = 10;
    private static final int MOST_SEED = 999999;
    private static final int MOST_NIGHTS = 30;
    private static final int MOST_CHANCE = 100;
    /** Answers of the calls for which BAD itself, or NONE, could be mistaken. */
    private static final int NOT_SO_MANY = -5;
    private static final int BAD_TEN = -10;
    private static final int BAD_HUNDRED = -100;
    /** Whose a cell is, if two owners are alike strong there. */
    private static final int HEDGE = -2;

    private final Valley land = new Valley();
    private final Valley[] images = {new Valley(), new Valley()};
    private final boolean[] kept = new boolean[IMAGES];
    private final Reader reader = new Reader();
    private final Night night = new Night(land);
    private final Sets sets = new Sets(land, night);
    private final Walk walk = new Walk(land, night);
    private long above = 0;
    private long below = 1;
    private int bads = 0;
    private int noes = 0;
    private int fulls = 0;

    public CandleLand() {
    }

    // ---- a valley

    public int valley(int fog) {
        if (!within(fog, 0, MOST_FOG)) {
            return bad(BAD);
        }
        int before = land.candles;
        land.startAnew(fog);
        return before;
    }

    public int fog(int n) {
        if (!within(n, 0, MOST_FOG)) {
            return bad(BAD);
        }
        int before = land.fog;
        land.fog = n;
        return before;
    }

    public int candle(int kind, int cell, int height, int owner, int tallow) {
        if (!within(kind, 0, KINDS - 1) || !isCell(cell) || !within(height, 1, MOST_HEIGHT)
                || !isOwner(owner) || !within(tallow, 0, MOST_TALLOW)) {
            return bad(BAD);
        }
        if (land.candles >= CANDLES) {
            return full();
        }
        return land.add(kind, cell, height, owner, tallow);
    }

    public int move(int candle, int cell) {
        if (!land.has(candle) || !isCell(cell)) {
            return bad(BAD);
        }
        land.remember();
        int before = land.cell[candle];
        land.cell[candle] = cell;
        return before;
    }

    public int light(int candle, int on) {
        if (!land.has(candle) || !within(on, 0, 1)) {
            return bad(BAD);
        }
        if (land.litAt(candle) == on) {
            return no();
        }
        land.remember();
        land.lit = land.lit ^ (1 << candle);
        return 1;
    }

    public int undo() {
        if (land.steps <= 0) {
            return no();
        }
        land.goBack();
        return land.lit;
    }

    public int type(int c) {
        if (!within(c, 0, 127)) {
            return bad(BAD);
        }
        if (reader.length >= TEXT) {
            return full();
        }
        return reader.append(c);
    }

    public int clear() {
        int before = reader.length;
        reader.length = 0;
        return before;
    }

    public int read() {
        int items = reader.parse();
        if (items >= 0) {
            land.takeFrom(reader.told);
        }
        return items;
    }

    public int of(int candle, int what) {
        if (!land.has(candle)) {
            return bad(BAD);
        }
        switch (what) {
            case 0: return land.kind[candle];
            case 1: return land.cell[candle];
            case 2: return land.height[candle];
            case 3: return land.owner[candle];
            case 4: return land.tallow[candle];
            case 5: return land.litAt(candle);
            case 6: return night.hoursOf(candle);
            default: return bad(BAD);
        }
    }

    // ---- whose it is

    public int shines(int candle, int cell, int hour) {
        if (!land.has(candle) || !isCell(cell) || !isHour(hour)) {
            return bad(BAD);
        }
        return land.litAt(candle) == 1 ? night.ifLit(candle, land.farFrom(candle, cell), hour) : 0;
    }

    public int cell(int cell, int hour, int what) {
        if (!isCell(cell) || !isHour(hour) || !within(what, 0, 2)) {
            return bad(BAD_TEN);
        }
        night.layCell(cell, hour);
        if (what == 0) {
            return night.strongest(cell, land.lit);
        }
        int whose = night.holder(cell, land.lit, land.owner);
        if (what == 1) {
            return whose == HEDGE ? NONE : whose;
        }
        return whose == HEDGE ? 1 : 0;
    }

    public int acres(int owner, int hour, int i) {
        if (!isOwner(owner) || !isHour(hour) || i < NONE) {
            return bad(BAD_TEN);
        }
        night.layAll(hour);
        return night.pick(owner, i);
    }

    public int hedges(int hour, int i) {
        if (!isHour(hour) || i < NONE) {
            return bad(BAD_TEN);
        }
        night.layAll(hour);
        return night.pick(HEDGE, i);
    }

    public int dark(int cell, int hour, int n) {
        if (!isCell(cell) || !isHour(hour) || !within(n, 1, MOST_ASKED)) {
            return bad(BAD);
        }
        for (int h = hour; h < HOURS; h++) {
            if ((night.reaching(cell, h, n) & land.lit) == 0) {
                return h;
            }
        }
        return HOURS;
    }

    // ---- what to do

    public int want(int cell) {
        if (!isCell(cell)) {
            return bad(BAD);
        }
        if (land.wants >= WANTS) {
            return full();
        }
        land.wanted[land.wants] = cell;
        land.wants++;
        return land.wants;
    }

    public int forget() {
        int before = land.wants;
        land.wants = 0;
        return before;
    }

    public int lighting(int hour, int n) {
        if (!isHour(hour) || !within(n, 1, MOST_ASKED)) {
            return bad(BAD);
        }
        sets.layWanted(hour, n);
        return sets.fewest();
    }

    public int tallow(int hour, int n) {
        if (!isHour(hour) || !within(n, 1, MOST_ASKED)) {
            return bad(BAD);
        }
        sets.layWanted(hour, n);
        return sets.leastTallow();
    }

    public int put(int candle, int hour) {
        if (!land.has(candle) || !isHour(hour)) {
            return bad(BAD);
        }
        night.layAll(hour);
        return night.bestPlace(candle, hour);
    }

    public int thief(int from, int to, int hour, int n, int what) {
        if (!isCell(from) || !isCell(to) || !isHour(hour) || !within(n, 1, MOST_ASKED)
                || !within(what, 0, 1)) {
            return bad(BAD);
        }
        night.layAll(hour);
        walk.spread(to, n);
        return what == 0 ? walk.stepsFrom(from) : walk.firstBehind(from);
    }

    public int wedding(int a, int b, int hour) {
        if (!isOwner(a) || !isOwner(b) || a == b || !isHour(hour)) {
            return bad(BAD_HUNDRED);
        }
        night.layAll(hour);
        return night.gainByWedding(a, b);
    }

    public int spite(int a, int b, int hour, int p) {
        if (!isOwner(a) || !isOwner(b) || a == b || !isHour(hour) || !within(p, 0, MOST_PRICE)) {
            return bad(BAD);
        }
        night.layAll(hour);
        return night.resting(a, b, p);
    }

    // ---- what was measured

    public int reading(int cell, int hour, int v) {
        if (!isCell(cell) || !isHour(hour) || !within(v, 0, MOST_LIGHT)) {
            return bad(BAD);
        }
        if (land.readings >= READINGS) {
            return full();
        }
        return land.addReading(cell, hour, v);
    }

    public int burnt() {
        int before = land.readings;
        land.readings = 0;
        return before;
    }

    public int burn(int what) {
        if (!within(what, 0, 1)) {
            return bad(BAD_TEN);
        }
        sets.layFitting();
        return what == 0 ? sets.fitting : sets.inAll();
    }

    public int measure(int hour) {
        if (!isHour(hour)) {
            return bad(BAD);
        }
        night.layAll(hour);
        sets.layFitting();
        return sets.bestCell();
    }

    public int draught(int cell, int hour, int n, int c) {
        if (!isCell(cell) || !isHour(hour) || !within(n, 0, MOST_LIGHT) || !within(c, 0, MOST_ODDS)) {
            return bad(BAD);
        }
        if (n == 0) {
            keepFraction(1, 1);
            return 1;
        }
        int enough = night.reaching(cell, hour, n) & land.lit;
        long all = 1;
        long allOut = 1;
        int candles = Integer.bitCount(enough);
        for (int k = 0; k < candles; k++) {
            all = all * MOST_ODDS;
            allOut = allOut * c;
        }
        keepFraction(all - allOut, all);
        return 1;
    }

    public int nights(int owner, int seed, int n, int w) {
        if (!isOwner(owner) || !within(seed, 0, MOST_SEED) || !within(n, 0, MOST_NIGHTS)
                || !within(w, 0, MOST_CHANCE)) {
            return bad(BAD);
        }
        night.layAll(0);
        return night.acresOfNights(owner, seed, n, w);
    }

    // ---- what there is

    public long part(int what) {
        if (!within(what, 0, 1)) {
            return bad(BAD);
        }
        return what == 0 ? above : below;
    }

    public int image(int i) {
        if (!within(i, 0, IMAGES - 1)) {
            return bad(BAD);
        }
        images[i].takeFrom(land);
        kept[i] = true;
        return 1;
    }

    public int from(int i) {
        if (!within(i, 0, IMAGES - 1)) {
            return bad(BAD);
        }
        if (!kept[i]) {
            return no();
        }
        land.takeFrom(images[i]);
        return 1;
    }

    public int status(int what) {
        switch (what) {
            case 0: return bads;
            case 1: return noes;
            case 2: return fulls;
            default: return bad(NONE);
        }
    }

    public int count(int what) {
        return within(what, 0, 6) ? howMany(what) : bad(BAD);
    }

    public long digest() {
        long h = 991;
        for (int what = 0; what <= 6; what++) {
            h = 31 * h + howMany(what);
        }
        h = land.mix(h);
        h = 31 * h + above;
        return 31 * h + below;
    }

    // ---- helpers of the calls

    private int howMany(int what) {
        switch (what) {
            case 0: return land.candles;
            case 1: return land.fog;
            case 2: return land.lit;
            case 3: return land.wants;
            case 4: return land.readings;
            case 5: return land.steps;
            default: return reader.length;
        }
    }

    private int bad(int answer) {
        bads++;
        return answer;
    }

    private int no() {
        noes++;
        return NO;
    }

    private int full() {
        fulls++;
        return FULL;
    }

    private void keepFraction(long over, long under) {
        long common = divisor(over, under);
        above = common > 0 ? over / common : over;
        below = common > 0 ? under / common : under;
    }

    /** The greatest common divisor; under is above 0, and a hundred rounds are more than 64 bits take. */
    private static long divisor(long over, long under) {
        long a = under;
        long b = over;
        for (int i = 0; i < 100 && b != 0; i++) {
            long left = a % b;
            a = b;
            b = left;
        }
        return a;
    }

    private static boolean within(int n, int least, int most) {
        return n >= least && n <= most;
    }

    private static boolean isCell(int n) {
        return within(n, 0, CELLS - 1);
    }

    private static boolean isHour(int n) {
        return within(n, 0, HOURS - 1);
    }

    private static boolean isOwner(int n) {
        return within(n, 0, OWNERS - 1);
    }

    private static int farBetween(int a, int b) {
        return Math.abs(a % SIDE - b % SIDE) + Math.abs(a / SIDE - b / SIDE);
    }

    /** Kind 0, and what the other kinds stand under. */
    private static class Plain {
        int strength(int height, int far) {
            return height > far ? height - far : 0;
        }

        int hours(int tallow) {
            return tallow;
        }
    }

    private static class Wick extends Plain {
        int strength(int height, int far) {
            int plain = super.strength(height, far);
            return plain > 0 ? plain + 3 : 0;
        }

        int hours(int tallow) {
            return super.hours(tallow) / 2;
        }
    }

    private static class Lamp extends Plain {
        int strength(int height, int far) {
            return super.strength(height, far > 2 ? far - 2 : 0);
        }
    }

    private static final class Lantern extends Lamp {
        int hours(int tallow) {
            return 2 * super.hours(tallow);
        }
    }

    private static final class Gutters extends Wick {
        int strength(int height, int far) {
            return super.strength(height, far) / 2;
        }

        int hours(int tallow) {
            return super.hours(tallow) + 2;
        }
    }

    private static final class Star extends Plain {
        int strength(int height, int far) {
            return super.strength(height, far) > 0 ? 1 : 0;
        }

        int hours(int tallow) {
            return HOURS;
        }
    }

    /** All that an image keeps. */
    private static final class Valley {
        int fog = 0;
        int candles = 0;
        /** Bit k: candle k is lit. */
        int lit = 0;
        final int[] kind = new int[CANDLES];
        final int[] cell = new int[CANDLES];
        final int[] height = new int[CANDLES];
        final int[] owner = new int[CANDLES];
        final int[] tallow = new int[CANDLES];
        int wants = 0;
        final int[] wanted = new int[WANTS];
        int readings = 0;
        final int[] readCell = new int[READINGS];
        final int[] readHour = new int[READINGS];
        final int[] readLight = new int[READINGS];
        /** How many steps may be undone; the last one lies at steps - 1. */
        int steps = 0;
        final int[] oldCells = new int[UNDOS * CANDLES];
        final int[] oldLit = new int[UNDOS];

        void startAnew(int fogNow) {
            fog = fogNow;
            candles = 0;
            lit = 0;
            wants = 0;
            readings = 0;
            steps = 0;
        }

        boolean has(int candle) {
            return candle >= 0 && candle < candles;
        }

        int litAt(int candle) {
            return (lit >> candle) & 1;
        }

        int farFrom(int candle, int where) {
            return farBetween(cell[candle], where);
        }

        int add(int kindNow, int cellNow, int heightNow, int ownerNow, int tallowNow) {
            int k = candles;
            if (k >= CANDLES) {
                return NONE;
            }
            kind[k] = kindNow;
            cell[k] = cellNow;
            height[k] = heightNow;
            owner[k] = ownerNow;
            tallow[k] = tallowNow;
            lit = lit | (1 << k);
            candles = k + 1;
            steps = 0;
            return k;
        }

        int addReading(int cellNow, int hourNow, int lightNow) {
            if (readings < READINGS) {
                readCell[readings] = cellNow;
                readHour[readings] = hourNow;
                readLight[readings] = lightNow;
                readings++;
            }
            return readings;
        }

        void remember() {
            if (steps >= UNDOS) {
                System.arraycopy(oldCells, CANDLES, oldCells, 0, (UNDOS - 1) * CANDLES);
                System.arraycopy(oldLit, 1, oldLit, 0, UNDOS - 1);
                steps = UNDOS - 1;
            }
            System.arraycopy(cell, 0, oldCells, steps * CANDLES, CANDLES);
            oldLit[steps] = lit;
            steps++;
        }

        void goBack() {
            if (steps > 0) {
                steps--;
                System.arraycopy(oldCells, steps * CANDLES, cell, 0, CANDLES);
                lit = oldLit[steps];
            }
        }

        void takeFrom(Valley other) {
            fog = other.fog;
            candles = other.candles;
            lit = other.lit;
            wants = other.wants;
            readings = other.readings;
            steps = other.steps;
            System.arraycopy(other.kind, 0, kind, 0, CANDLES);
            System.arraycopy(other.cell, 0, cell, 0, CANDLES);
            System.arraycopy(other.height, 0, height, 0, CANDLES);
            System.arraycopy(other.owner, 0, owner, 0, CANDLES);
            System.arraycopy(other.tallow, 0, tallow, 0, CANDLES);
            System.arraycopy(other.wanted, 0, wanted, 0, WANTS);
            System.arraycopy(other.readCell, 0, readCell, 0, READINGS);
            System.arraycopy(other.readHour, 0, readHour, 0, READINGS);
            System.arraycopy(other.readLight, 0, readLight, 0, READINGS);
            System.arraycopy(other.oldCells, 0, oldCells, 0, UNDOS * CANDLES);
            System.arraycopy(other.oldLit, 0, oldLit, 0, UNDOS);
        }

        /** The digest's middle: candles, wanted cells, readings. */
        long mix(long start) {
            long h = start;
            for (int k = 0; k < candles; k++) {
                h = 31 * h + kind[k];
                h = 31 * h + cell[k];
                h = 31 * h + height[k];
                h = 31 * h + owner[k];
                h = 31 * h + tallow[k];
            }
            for (int i = 0; i < wants; i++) {
                h = 31 * h + wanted[i];
            }
            for (int i = 0; i < readings; i++) {
                h = 31 * h + readCell[i];
                h = 31 * h + readHour[i];
                h = 31 * h + readLight[i];
            }
            return h;
        }
    }

    /** The text, and the valley that it tells. */
    private static final class Reader {
        private static final int END = 0, WORD = 1, NUMBER = 2, STOP = 3, OTHER = 4;
        private static final int FAULT = -10;

        /** Read into here first, so that a fault leaves the land as it is. */
        final Valley told = new Valley();
        int length = 0;
        private final byte[] text = new byte[TEXT];
        private int at = 0;
        private int token = END;
        private int start = 0;
        private int value = 0;

        int append(int c) {
            if (length < TEXT) {
                text[length] = (byte) c;
                length++;
            }
            return length;
        }

        /** How many items, or FAULT less the place of the token that can not stand. */
        int parse() {
            at = 0;
            told.startAnew(0);
            for (int items = 0; items <= TEXT; items++) {
                advance();
                if (token == END && items > 0) {
                    return items;
                }
                if (!takeItem(items == 0)) {
                    break;
                }
            }
            return FAULT - start;
        }

        private boolean takeItem(boolean first) {
            if (token != WORD) {
                return false;
            }
            if (first) {
                return spells("valley") && takeFog();
            }
            if (spells("candle")) {
                return takeCandle();
            }
            return spells("out") && takeOut();
        }

        private boolean takeFog() {
            if (!takeNumber(0, MOST_FOG)) {
                return false;
            }
            told.fog = value;
            return takeStop();
        }

        private boolean takeCandle() {
            if (told.candles >= CANDLES || !takeNumber(0, KINDS - 1)) {
                return false;
            }
            int kind = value;
            if (!takeNumber(0, CELLS - 1)) {
                return false;
            }
            int cell = value;
            if (!takeNumber(1, MOST_HEIGHT)) {
                return false;
            }
            int height = value;
            if (!takeNumber(0, OWNERS - 1)) {
                return false;
            }
            int owner = value;
            if (!takeNumber(0, MOST_TALLOW)) {
                return false;
            }
            told.add(kind, cell, height, owner, value);
            return takeStop();
        }

        private boolean takeOut() {
            if (!takeNumber(0, told.candles - 1)) {
                return false;
            }
            told.lit = told.lit & ~(1 << value);
            return takeStop();
        }

        private boolean takeNumber(int least, int most) {
            advance();
            return token == NUMBER && within(value, least, most);
        }

        private boolean takeStop() {
            advance();
            return token == STOP;
        }

        private void advance() {
            while (at < length && text[at] == ' ') {
                at++;
            }
            start = at;
            if (at >= length) {
                token = END;
            } else if (isLetter(text[at])) {
                token = WORD;
                while (at < length && isLetter(text[at])) {
                    at++;
                }
            } else if (isFigure(text[at])) {
                token = NUMBER;
                value = 0;
                while (at < length && isFigure(text[at])) {
                    // over two figures are no number as told, whatever they say
                    value = at - start < 2 ? 10 * value + text[at] - '0' : NONE;
                    at++;
                }
            } else {
                token = text[at] == ';' ? STOP : OTHER;
                at++;
            }
        }

        private boolean spells(String word) {
            if (at - start != word.length()) {
                return false;
            }
            for (int i = 0; i < word.length(); i++) {
                if (text[start + i] != word.charAt(i)) {
                    return false;
                }
            }
            return true;
        }

        private static boolean isLetter(int c) {
            return c >= 'a' && c <= 'z';
        }

        private static boolean isFigure(int c) {
            return c >= '0' && c <= '9';
        }
    }

    /** How light the cells are, and whose: first lay one hour, then ask by sets of candles that are lit. */
    private static final class Night {
        private final Valley land;
        private final Plain[] kinds = {new Plain(), new Wick(), new Lamp(), new Lantern(), new Gutters(), new Star()};
        /** Of each cell, candle after candle: its light in the hour laid, were it lit. */
        final int[] strong = new int[CELLS * CANDLES];
        private final int[] owners = new int[CANDLES];
        private final int[] mine = new int[CELLS];
        private final int[] theirs = new int[CELLS];
        /** Of one candle, as far as 0, 1, ..: its light in one hour, were it lit. */
        private final int[] byFar = new int[FARTHEST + 1];
        private final int[] gainsA = new int[4];
        private final int[] gainsB = new int[4];

        Night(Valley land) {
            this.land = land;
        }

        int hoursOf(int candle) {
            return kinds[land.kind[candle]].hours(land.tallow[candle]);
        }

        int ifLit(int candle, int far, int hour) {
            Plain kind = kinds[land.kind[candle]];
            if (hour >= kind.hours(land.tallow[candle])) {
                return 0;
            }
            return Math.max(0, kind.strength(land.height[candle], far) - land.fog);
        }

        void layCell(int cell, int hour) {
            for (int k = 0; k < land.candles; k++) {
                strong[cell * CANDLES + k] = ifLit(k, land.farFrom(k, cell), hour);
            }
        }

        void layAll(int hour) {
            for (int k = 0; k < land.candles; k++) {
                layFar(k, hour);
                for (int c = 0; c < CELLS; c++) {
                    strong[c * CANDLES + k] = byFar[land.farFrom(k, c)];
                }
            }
        }

        private void layFar(int candle, int hour) {
            for (int far = 0; far <= FARTHEST; far++) {
                byFar[far] = ifLit(candle, far, hour);
            }
        }

        /** Candles that light a cell by n or more, were they lit. */
        int reaching(int cell, int hour, int n) {
            int bits = 0;
            for (int k = 0; k < land.candles; k++) {
                if (ifLit(k, land.farFrom(k, cell), hour) >= n) {
                    bits = bits | (1 << k);
                }
            }
            return bits;
        }

        int strongest(int cell, int set) {
            int top = 0;
            for (int k = 0; k < land.candles; k++) {
                if (((set >> k) & 1) == 1) {
                    top = Math.max(top, strong[cell * CANDLES + k]);
                }
            }
            return top;
        }

        /** The owner; HEDGE, if two are alike strong; NONE, if it is dark. */
        int holder(int cell, int set, int[] whose) {
            int top = 0;
            int who = NONE;
            for (int k = 0; k < land.candles && k < whose.length; k++) {
                int light = ((set >> k) & 1) == 1 ? strong[cell * CANDLES + k] : 0;
                if (light > top) {
                    top = light;
                    who = whose[k];
                } else if (light > 0 && light == top && whose[k] != who) {
                    who = HEDGE;
                }
            }
            return who;
        }

        /** How many cells are who's (i is NONE), or the i-th of them. */
        int pick(int who, int i) {
            int seen = 0;
            for (int c = 0; c < CELLS; c++) {
                if (holder(c, land.lit, land.owner) == who) {
                    if (seen == i) {
                        return c;
                    }
                    seen++;
                }
            }
            return i == NONE ? seen : NOT_SO_MANY;
        }

        private int acresOf(int who, int set, int[] whose) {
            int acres = 0;
            for (int c = 0; c < CELLS; c++) {
                if (holder(c, set, whose) == who) {
                    acres++;
                }
            }
            return acres;
        }

        int gainByWedding(int a, int b) {
            for (int k = 0; k < CANDLES; k++) {
                owners[k] = land.owner[k] == b ? a : land.owner[k];
            }
            int apart = acresOf(a, land.lit, land.owner) + acresOf(b, land.lit, land.owner);
            return acresOf(a, land.lit, owners) - apart;
        }

        private int candlesOf(int owner) {
            int bits = 0;
            for (int k = 0; k < land.candles; k++) {
                if (land.owner[k] == owner) {
                    bits = bits | (1 << k);
                }
            }
            return bits;
        }

        /** Pairs that rest; bit 0 of a pair's number is whether a's candles are lit, bit 1 whether b's. */
        int resting(int a, int b, int price) {
            int ofA = candlesOf(a);
            int ofB = candlesOf(b);
            int others = land.lit & ~ofA & ~ofB;
            for (int pair = 0; pair < 4; pair++) {
                int litA = (pair & 1) != 0 ? ofA : 0;
                int litB = (pair & 2) != 0 ? ofB : 0;
                int set = others | litA | litB;
                gainsA[pair] = acresOf(a, set, land.owner) - price * Integer.bitCount(litA) / 10;
                gainsB[pair] = acresOf(b, set, land.owner) - price * Integer.bitCount(litB) / 10;
            }
            int bits = 0;
            for (int pair = 0; pair < 4; pair++) {
                if (gainsA[pair] >= gainsA[pair ^ 1] && gainsB[pair] >= gainsB[pair ^ 2]) {
                    bits = bits | (1 << pair);
                }
            }
            return bits;
        }

        int acresOfNights(int owner, int seed, int nights, int chance) {
            long x = seed;
            int acres = 0;
            for (int i = 0; i < nights; i++) {
                int set = 0;
                for (int k = 0; k < land.candles; k++) {
                    x = (x * 1103515245L + 12345L) % 2147483648L;
                    if (x / 65536 % 100 < chance) {
                        set = set | (1 << k);
                    }
                }
                acres += acresOf(owner, set, land.owner);
            }
            return acres;
        }

        /** The first cell where a candle brings its owner most acres; one that is out is alike everywhere. */
        int bestPlace(int candle, int hour) {
            if (land.litAt(candle) == 0) {
                return 0;
            }
            int own = candlesOf(land.owner[candle]);
            int rest = land.lit & ~(1 << candle);
            for (int c = 0; c < CELLS; c++) {
                mine[c] = strongest(c, rest & own);
                theirs[c] = strongest(c, rest & ~own);
            }
            layFar(candle, hour);
            int best = 0;
            int most = NONE;
            for (int place = 0; place < CELLS; place++) {
                int acres = acresFrom(place);
                if (acres > most) {
                    most = acres;
                    best = place;
                }
            }
            return best;
        }

        private int acresFrom(int place) {
            int acres = 0;
            for (int c = 0; c < CELLS; c++) {
                if (Math.max(mine[c], byFar[farBetween(place, c)]) > theirs[c]) {
                    acres++;
                }
            }
            return acres;
        }
    }

    /** What asks of every set of candles lit, the others out. */
    private static final class Sets {
        private final Valley land;
        private final Night night;
        /** Of each wanted cell: the candles of which one at least must be lit. */
        private final int[] needed = new int[WANTS];
        private final boolean[] fits = new boolean[SETS];
        int fitting = 0;
        private final int[] light = new int[SETS];
        private final int[] alike = new int[MOST_LIGHT + 1];

        Sets(Valley land, Night night) {
            this.land = land;
            this.night = night;
        }

        private int howManySets() {
            return 1 << land.candles;
        }

        void layWanted(int hour, int n) {
            for (int i = 0; i < land.wants; i++) {
                needed[i] = night.reaching(land.wanted[i], hour, n);
            }
        }

        private boolean lightsWanted(int set) {
            for (int i = 0; i < land.wants; i++) {
                if ((set & needed[i]) == 0) {
                    return false;
                }
            }
            return true;
        }

        int fewest() {
            int best = NONE;
            for (int set = 0; set < howManySets(); set++) {
                if (lightsWanted(set) && (best == NONE || Integer.bitCount(set) < Integer.bitCount(best))) {
                    best = set;
                }
            }
            return best;
        }

        int leastTallow() {
            int least = NONE;
            for (int set = 0; set < howManySets(); set++) {
                if (lightsWanted(set) && (least == NONE || tallowOf(set) < least)) {
                    least = tallowOf(set);
                }
            }
            return least;
        }

        private int tallowOf(int set) {
            int sum = 0;
            for (int k = 0; k < land.candles; k++) {
                sum += ((set >> k) & 1) == 1 ? land.tallow[k] : 0;
            }
            return sum;
        }

        void layFitting() {
            for (int set = 0; set < howManySets(); set++) {
                fits[set] = true;
            }
            for (int i = 0; i < land.readings; i++) {
                int v = land.readLight[i];
                int enough = night.reaching(land.readCell[i], land.readHour[i], v);
                int tooStrong = night.reaching(land.readCell[i], land.readHour[i], v + 1);
                for (int set = 0; set < howManySets(); set++) {
                    boolean reached = v == 0 || (set & enough) != 0;
                    fits[set] = fits[set] && reached && (set & tooStrong) == 0;
                }
            }
            fitting = 0;
            for (int set = 0; set < howManySets(); set++) {
                fitting += fits[set] ? 1 : 0;
            }
        }

        int inAll() {
            if (fitting == 0) {
                return NONE;
            }
            int bits = howManySets() - 1;
            for (int set = 0; set < howManySets(); set++) {
                if (fits[set]) {
                    bits = bits & set;
                }
            }
            return bits;
        }

        int bestCell() {
            int best = NONE;
            int fewest = SETS + 1;
            for (int c = 0; fitting > 0 && c < CELLS; c++) {
                int most = mostAlike(c);
                if (most < fewest) {
                    fewest = most;
                    best = c;
                }
            }
            return best;
        }

        /** The most of the fitting sets by which a cell is alike light. */
        private int mostAlike(int cell) {
            layLight(cell);
            for (int v = 0; v <= MOST_LIGHT; v++) {
                alike[v] = 0;
            }
            int most = 0;
            for (int set = 0; set < howManySets(); set++) {
                int v = light[set];
                if (fits[set] && v >= 0 && v <= MOST_LIGHT) {
                    alike[v]++;
                    most = Math.max(most, alike[v]);
                }
            }
            return most;
        }

        /** A set with candle k as its last is as light as the set without k, or as k is. */
        private void layLight(int cell) {
            light[0] = 0;
            for (int k = 0; k < land.candles; k++) {
                int bit = 1 << k;
                int strength = night.strong[cell * CANDLES + k];
                for (int set = bit; set < 2 * bit; set++) {
                    light[set] = Math.max(light[set - bit], strength);
                }
            }
        }
    }

    /** A thief's ways, reckoned from where he goes to. */
    private static final class Walk {
        private final Valley land;
        private final Night night;
        /** Steps from each cell to where he goes; NONE: no way. */
        private final int[] steps = new int[CELLS];
        private final boolean[] open = new boolean[CELLS];
        private final int[] queue = new int[CELLS];

        Walk(Valley land, Night night) {
            this.land = land;
            this.night = night;
        }

        void spread(int to, int n) {
            for (int c = 0; c < CELLS; c++) {
                steps[c] = NONE;
                open[c] = night.strongest(c, land.lit) < n;
            }
            int ahead = 0;
            if (open[to]) {
                steps[to] = 0;
                queue[0] = to;
                ahead = 1;
            }
            for (int i = 0; i < ahead && i < CELLS; i++) {
                ahead = spreadFrom(queue[i], ahead);
            }
        }

        private int spreadFrom(int cell, int ahead) {
            int end = ahead;
            for (int way = 0; way < 4; way++) {
                int next = beside(cell, way);
                if (next != NONE && end < CELLS && open[next] && steps[next] == NONE) {
                    steps[next] = steps[cell] + 1;
                    queue[end] = next;
                    end++;
                }
            }
            return end;
        }

        int stepsFrom(int from) {
            return steps[from];
        }

        int firstBehind(int from) {
            if (steps[from] <= 0) {
                return steps[from] == 0 ? from : NONE;
            }
            for (int way = 0; way < 4; way++) {
                int next = beside(from, way);
                if (next != NONE && steps[next] == steps[from] - 1) {
                    return next;
                }
            }
            return NONE;
        }

        /** Ways in the order of the cells they lead to, so that the first found is the least. */
        private static int beside(int cell, int way) {
            switch (way) {
                case 0: return cell >= SIDE ? cell - SIDE : NONE;
                case 1: return cell % SIDE > 0 ? cell - 1 : NONE;
                case 2: return cell % SIDE < SIDE - 1 ? cell + 1 : NONE;
                default: return cell < CELLS - SIDE ? cell + SIDE : NONE;
            }
        }
    }
}
