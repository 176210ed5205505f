/** Lands to begin with: from a new one to one that holds as much of all as there may be. */
final class Lands {
    static final String[] STATES = {"new", "one candle", "some of all", "full"};
    private static final String LONG_TEXT = "valley 4;candle 5 63 20 3 12;candle 1 2 3 1 4;out 1;";

    private Lands() {
    }

    static CandleLand made(String state) {
        CandleLand x = new CandleLand();
        switch (state) {
            case "new": break;
            case "one candle": x.candle(2, 20, 9, 1, 9); break;
            case "some of all": fillSome(x); break;
            default: fillAll(x); break;
        }
        return x;
    }

    private static void fillSome(CandleLand x) {
        x.fog(2);
        for (int k = 0; k < 3; k++) {
            x.candle(k, 9 * k + 8, 12 + k, k, 8);
        }
        x.want(5);
        x.reading(6, 1, 0);
        x.image(0);
        x.light(1, 0);
        x.image(1);
        x.move(2, 44);
        x.draught(44, 0, 1, 3);
        for (int i = 0; i < LONG_TEXT.length(); i++) {
            x.type(LONG_TEXT.charAt(i));
        }
        x.fog(10);
        x.light(1, 0);
        x.from(2);
    }

    /** All three of STATUS are unlike, and none is 0. */
    private static void fillAll(CandleLand x) {
        x.candle(1, 5, 6, 2, 7);
        x.move(0, 9);
        x.light(0, 0);
        x.image(0);
        x.valley(3);
        for (int k = 0; k < 10; k++) {
            x.candle(k % 6, 9 * Math.min(k, 6), 20 - k, k % 4, 12 - k);
        }
        for (int i = 0; i < 7; i++) {
            x.want(10 + i);
            x.reading(20 + i, i, 3 + i);
        }
        x.undo();
        x.move(2, 33);
        x.image(1);
        x.light(1, 0);
        x.move(0, 1);
        x.move(3, 40);
        x.light(4, 0);
        x.move(5, 2);
        x.light(4, 1);
        x.light(6, 0);
        x.light(6, 0);
        x.move(6, 7);
        x.draught(0, 0, 1, 5);
        for (int i = 0; i < 151; i++) {
            x.type(i < LONG_TEXT.length() ? LONG_TEXT.charAt(i) : ' ');
        }
        for (int i = 0; i < 3; i++) {
            x.count(7 + i);
        }
    }
}
