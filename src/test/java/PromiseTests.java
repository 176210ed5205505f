/** Each promise of the document by hand: ordinary inputs, the edges that it names, wrong inputs. */
public final class PromiseTests {
    private static int wrong = 0;
    private static int promise = 0;

    private static void due(String call, long got, long want) {
        if (got != want) {
            wrong++;
            System.out.println("promise " + promise + ": " + call + " answered " + got + ", due is " + want);
        }
    }

    private static void refusals(CandleLand x, int bad, int no, int full) {
        due("status(0)", x.status(0), bad);
        due("status(1)", x.status(1), no);
        due("status(2)", x.status(2), full);
    }

    private static void say(CandleLand x, String text) {
        x.clear();
        for (int i = 0; i < text.length(); i++) {
            due("type in " + text, x.type(text.charAt(i)), i + 1);
        }
    }

    private static void told(String text, int answer) {
        CandleLand x = new CandleLand();
        say(x, text);
        due("read of '" + text + "'", x.read(), answer);
    }

    private static long mixed(long... values) {
        long h = 991;
        for (long v : values) {
            h = 31 * h + v;
        }
        return h;
    }

    private static void newObject() {
        promise = 1;
        CandleLand x = new CandleLand();
        for (int what = 0; what <= 6; what++) {
            due("count(" + what + ")", x.count(what), 0);
        }
        due("part(0)", x.part(0), 0);
        due("part(1)", x.part(1), 1);
        refusals(x, 0, 0, 0);
        due("from(0)", x.from(0), -3);
        due("from(1)", x.from(1), -3);
        due("cell(0, 0, 1)", x.cell(0, 0, 1), -1);
    }

    private static CandleLand busy() {
        CandleLand x = new CandleLand();
        x.fog(3);
        x.candle(0, 0, 20, 0, 12);
        x.candle(0, 63, 20, 1, 12);
        x.move(0, 8);
        x.light(1, 0);
        x.want(5);
        x.reading(6, 7, 8);
        x.draught(8, 0, 1, 5);
        x.type('a');
        return x;
    }

    private static void valley() {
        promise = 2;
        CandleLand x = busy();
        x.image(1);
        x.undo();
        due("valley(-1)", x.valley(-1), -2);
        due("valley(10)", x.valley(10), -2);
        due("count(0)", x.count(0), 2);
        due("valley(9)", x.valley(9), 2);
        due("digest()", x.digest(), mixed(0, 9, 0, 0, 0, 0, 1, 1, 2));
        due("undo()", x.undo(), -3);
        refusals(x, 2, 1, 0);
        due("valley(0)", x.valley(0), 0);
        due("candle of the new one", x.candle(1, 2, 3, 0, 4), 0);
        due("count(2)", x.count(2), 1);
        due("from(1)", x.from(1), 1);
        due("count(1)", x.count(1), 3);
    }

    private static void fog() {
        promise = 3;
        CandleLand x = new CandleLand();
        due("fog(9)", x.fog(9), 0);
        due("fog(-1)", x.fog(-1), -2);
        due("fog(10)", x.fog(10), -2);
        due("fog(2)", x.fog(2), 9);
        due("count(1)", x.count(1), 2);
        x.candle(0, 0, 10, 0, 12);
        x.move(0, 1);
        due("fog(4)", x.fog(4), 2);
        due("undo keeps FOG", x.undo(), 1);
        due("count(1)", x.count(1), 4);
        due("shines(0, 0, 0)", x.shines(0, 0, 0), 6);
        due("shines(0, 48, 0)", x.shines(0, 48, 0), 0);
        due("shines(0, 40, 0)", x.shines(0, 40, 0), 1);
        refusals(x, 2, 0, 0);
    }

    private static void candle() {
        promise = 4;
        CandleLand x = new CandleLand();
        int[][] bad = {{-1, 0, 1, 0, 0}, {6, 0, 1, 0, 0}, {0, -1, 1, 0, 0}, {0, 64, 1, 0, 0}, {0, 0, 0, 0, 0},
            {0, 0, 21, 0, 0}, {0, 0, 1, -1, 0}, {0, 0, 1, 4, 0}, {0, 0, 1, 0, -1}, {0, 0, 1, 0, 13}};
        for (int[] b : bad) {
            due("candle, bad", x.candle(b[0], b[1], b[2], b[3], b[4]), -2);
        }
        due("candle, the least", x.candle(0, 0, 1, 0, 0), 0);
        due("candle, the most", x.candle(5, 63, 20, 3, 12), 1);
        x.move(0, 4);
        x.light(0, 0);
        due("count(5)", x.count(5), 2);
        for (int k = 2; k < 7; k++) {
            due("candle", x.candle(2, 5, 6, 1, 7), k);
            due("none may be undone", x.count(5), 0);
        }
        due("those out stay so", x.count(2), 126);
        x.move(0, 5);
        due("the 8th", x.candle(0, 0, 1, 0, 0), -4);
        due("the 8th, bad", x.candle(0, 0, 1, 4, 0), -2);
        due("the refused one leaves what may be undone", x.count(5), 1);
        refusals(x, 11, 0, 1);
    }

    private static void move() {
        promise = 5;
        CandleLand x = new CandleLand();
        due("move(0, 0)", x.move(0, 0), -2);
        x.candle(0, 10, 5, 0, 5);
        x.candle(0, 20, 5, 1, 5);
        due("move(1, 63)", x.move(1, 63), 20);
        due("move(1, 0)", x.move(1, 0), 63);
        due("move to where it is", x.move(1, 0), 0);
        due("count(5)", x.count(5), 3);
        due("of(0, 1)", x.of(0, 1), 10);
        due("of(1, 1)", x.of(1, 1), 0);
        due("move(-1, 0)", x.move(-1, 0), -2);
        due("move(2, 0)", x.move(2, 0), -2);
        due("move(0, -1)", x.move(0, -1), -2);
        due("move(0, 64)", x.move(0, 64), -2);
        due("count(5)", x.count(5), 3);
        refusals(x, 5, 0, 0);
    }

    private static void light() {
        promise = 6;
        CandleLand x = new CandleLand();
        due("light(0, 1)", x.light(0, 1), -2);
        x.candle(0, 10, 5, 0, 5);
        x.candle(0, 20, 5, 1, 5);
        due("light(1, 1), it is so", x.light(1, 1), -3);
        due("light(1, 0)", x.light(1, 0), 1);
        due("count(2)", x.count(2), 1);
        due("light(1, 0), it is so", x.light(1, 0), -3);
        due("light(0, 0)", x.light(0, 0), 1);
        due("count(2)", x.count(2), 0);
        due("light(1, 1)", x.light(1, 1), 1);
        due("count(2)", x.count(2), 2);
        due("count(5)", x.count(5), 3);
        due("light(0, 2)", x.light(0, 2), -2);
        due("light(0, -1)", x.light(0, -1), -2);
        due("light(2, 0)", x.light(2, 0), -2);
        due("light(-1, 0)", x.light(-1, 0), -2);
        due("light(32, 0)", x.light(32, 0), -2);
        refusals(x, 6, 2, 0);
    }

    private static void undo() {
        promise = 7;
        CandleLand x = new CandleLand();
        due("undo()", x.undo(), -3);
        x.candle(0, 1, 5, 0, 5);
        x.candle(0, 2, 5, 0, 5);
        x.light(0, 0);
        x.move(0, 9);
        x.move(1, 12);
        x.light(1, 0);
        due("undo()", x.undo(), 2);
        due("of(1, 1)", x.of(1, 1), 12);
        due("undo()", x.undo(), 2);
        due("of(1, 1)", x.of(1, 1), 2);
        due("of(0, 1)", x.of(0, 1), 9);
        x.move(1, 30);
        due("count(5)", x.count(5), 3);
        due("undo()", x.undo(), 2);
        due("undo()", x.undo(), 2);
        due("of(0, 1)", x.of(0, 1), 1);
        due("undo()", x.undo(), 3);
        due("undo()", x.undo(), -3);
        for (int i = 0; i < 11; i++) {
            x.move(i % 2, 20 + i);
            due("count(5)", x.count(5), Math.min(8, i + 1));
        }
        for (int i = 10; i > 2; i--) {
            due("undo()", x.undo(), 3);
            due("where it was", x.of(i % 2, 1), 18 + i);
            due("where the other is", x.of((i + 1) % 2, 1), 19 + i);
        }
        due("undo() of the ninth", x.undo(), -3);
        due("of(0, 1)", x.of(0, 1), 22);
        due("of(1, 1)", x.of(1, 1), 21);
        refusals(x, 0, 3, 0);
        undoOfTenLit();
    }

    private static void undoOfTenLit() {
        CandleLand x = new CandleLand();
        x.candle(0, 1, 5, 0, 5);
        x.candle(0, 2, 5, 0, 5);
        for (int i = 0; i < 10; i++) {
            x.light(i % 2, i / 2 % 2);
        }
        // lit ahead of the third to the tenth: 0, 1, 3, 2, 0, 1, 3, 2
        for (int bits : new int[] {2, 3, 1, 0, 2, 3, 1, 0}) {
            due("undo()", x.undo(), bits);
        }
        due("undo() of the ninth", x.undo(), -3);
    }

    private static void typeAndClear() {
        promise = 8;
        CandleLand x = new CandleLand();
        due("type(-1)", x.type(-1), -2);
        due("type(128)", x.type(128), -2);
        due("type(0)", x.type(0), 1);
        due("type(127)", x.type(127), 2);
        for (int i = 3; i <= 150; i++) {
            due("type(';')", x.type(';'), i);
        }
        due("the 151st", x.type(';'), -4);
        due("the 151st, bad", x.type(128), -2);
        due("count(6)", x.count(6), 150);
        refusals(x, 3, 0, 1);
        promise = 9;
        due("clear()", x.clear(), 150);
        due("clear()", x.clear(), 0);
        due("count(6)", x.count(6), 0);
        due("type(65)", x.type(65), 1);
    }

    private static void read() {
        promise = 10;
        told("valley 9;", 1);
        told("  valley   09 ;  ", 1);
        told("valley0;candle5 63 20 3 12;out0;", 3);
        told("valley 0;candle 0 0 1 0 0;out 0;out 0;", 4);
        readFaults();
        CandleLand x = busy();
        x.image(0);
        say(x, "valley 7;candle 1 2 3 0 4;candle 5 6 7 1 8;out 0;");
        x.type('!');
        long before = x.digest();
        due("read()", x.read(), -10 - 49);
        due("all stays", x.digest(), before);
        say(x, "valley 7;candle 1 2 3 0 4;candle 5 6 7 1 8;out 0;");
        due("read()", x.read(), 4);
        due("digest()", x.digest(), mixed(2, 7, 2, 0, 0, 0, 49, 1, 2, 3, 0, 4, 5, 6, 7, 1, 8, 1, 2));
        due("from(0)", x.from(0), 1);
        due("count(1)", x.count(1), 3);
        refusals(x, 0, 0, 0);
    }

    private static void readFaults() {
        told("", -10);
        told("   ", -13);
        told("val", -10);
        told("valley", -16);
        told("valley ", -17);
        told("valley 1", -18);
        told("valley 1 ", -19);
        told("valley;", -16);
        told("valley 10;", -17);
        told("valley 1 1;", -19);
        told("valley 000;", -17);
        told("valley A;", -17);
        told("valleyA 1;", -16);
        told("Valley 1;", -10);
        told("valleys 1;", -10);
        told("valle y 1;", -10);
        told("valley\n1;", -16);
        told(" candle 0 0 1 0 0;", -11);
        told("out 0;", -10);
        told(";", -10);
        told("1;", -10);
        told("valley 1;;", -19);
        told("valley 1;7;", -19);
        told("valley 1; valley 1;", -20);
        told("valley 1;cand", -19);
        told("valley 1z;", -18);
        told("valleyz 1;", -10);
        told("galley 1;", -10);
        told("valley 1;aut 0;", -19);
        told("valley 1;candle 6 0 1 0 0;", -26);
        told("valley 1;candle 0 64 1 0 0;", -28);
        told("valley 1;candle 0 0 0 0 0;", -30);
        told("valley 1;candle 0 0 21 0 0;", -30);
        told("valley 1;candle 0 0 1 4 0;", -32);
        told("valley 1;candle 0 0 1 0 13;", -34);
        told("valley 1;candle 0 0 1 0 0", -35);
        told("valley 1;candle 0 0 1 0 0 0;", -36);
        told("valley 1;candle 0 0 1 0;", -33);
        told("valley 1;candle 0 0 1 0 out 0;", -34);
        told("valley 1;out 0;", -23);
        told("valley 1;candle 0 0 1 0 0;out 1;", -40);
        told("valley 1;out 0;candle 0 0 1 0 0;", -23);
        told("valley 1;candle 0 0 1 0 0;out;", -39);
        told("valley 1;candle 0 0 1 0 0;out 0 0;", -42);
        String seven = "valley 1;";
        for (int i = 0; i < 7; i++) {
            seven = seven + "candle 0 0 1 0 0;";
        }
        told(seven, 8);
        told(seven + "out 6;", 9);
        told(seven + "out 7;", -10 - seven.length() - 4);
        told(seven + " candle", -10 - seven.length() - 1);
    }

    private static void of() {
        promise = 11;
        CandleLand x = new CandleLand();
        due("of(0, 0)", x.of(0, 0), -2);
        int[] hours = {7, 3, 7, 14, 5, 12};
        for (int kind = 0; kind < 6; kind++) {
            x.candle(kind, 10 + kind, 3 + kind, kind % 4, 7);
            due("KIND", x.of(kind, 0), kind);
            due("CELL", x.of(kind, 1), 10 + kind);
            due("HEIGHT", x.of(kind, 2), 3 + kind);
            due("OWNER", x.of(kind, 3), kind % 4);
            due("TALLOW", x.of(kind, 4), 7);
            due("LIT", x.of(kind, 5), 1);
            due("HOURS", x.of(kind, 6), hours[kind]);
        }
        x.light(3, 0);
        due("of(3, 5)", x.of(3, 5), 0);
        x.candle(4, 0, 1, 0, 0);
        due("of(6, 6)", x.of(6, 6), 2);
        due("of(-1, 0)", x.of(-1, 0), -2);
        due("of(7, 0)", x.of(7, 0), -2);
        due("of(0, -1)", x.of(0, -1), -2);
        due("of(0, 7)", x.of(0, 7), -2);
        refusals(x, 5, 0, 0);
    }

    private static void shines() {
        promise = 12;
        CandleLand x = new CandleLand();
        due("shines(0, 0, 0)", x.shines(0, 0, 0), -2);
        // of height 6, as far as 0 .. 8
        int[][] lights = {{6, 5, 4, 3, 2, 1, 0, 0, 0}, {9, 8, 7, 6, 5, 4, 0, 0, 0}, {6, 6, 6, 5, 4, 3, 2, 1, 0},
            {6, 6, 6, 5, 4, 3, 2, 1, 0}, {4, 4, 3, 3, 2, 2, 0, 0, 0}, {1, 1, 1, 1, 1, 1, 0, 0, 0}};
        int[] cells = {0, 1, 9, 10, 18, 19, 27, 28, 36};
        for (int kind = 0; kind < 6; kind++) {
            x.candle(kind, 0, 6, 0, 4);
            for (int d = 0; d <= 8; d++) {
                due("shines, kind " + kind + " far " + d, x.shines(kind, cells[d], 0), lights[kind][d]);
            }
        }
        x.fog(3);
        for (int kind = 0; kind < 6; kind++) {
            for (int d = 0; d <= 8; d++) {
                due("shines in fog, kind " + kind + " far " + d, x.shines(kind, cells[d], 1),
                        Math.max(0, lights[kind][d] - 3));
            }
        }
        x.fog(0);
        int[] hours = {4, 2, 4, 8, 4, 12};
        for (int kind = 0; kind < 6; kind++) {
            for (int h = 0; h < 12; h++) {
                due("shines in hour " + h, x.shines(kind, 0, h), h < hours[kind] ? lights[kind][0] : 0);
            }
        }
        x.light(0, 0);
        due("shines, out", x.shines(0, 0, 0), 0);
        due("shines(6, 0, 0)", x.shines(6, 0, 0), -2);
        due("shines(-1, 0, 0)", x.shines(-1, 0, 0), -2);
        due("shines(0, 64, 0)", x.shines(0, 64, 0), -2);
        due("shines(0, -1, 0)", x.shines(0, -1, 0), -2);
        due("shines(0, 0, 12)", x.shines(0, 0, 12), -2);
        due("shines(0, 0, -1)", x.shines(0, 0, -1), -2);
        refusals(x, 7, 0, 0);
    }

    private static void cell() {
        promise = 13;
        CandleLand x = new CandleLand();
        x.candle(0, 0, 3, 2, 2);
        x.candle(0, 2, 3, 3, 12);
        x.candle(0, 0, 3, 2, 12);
        due("light of cell 1", x.cell(1, 0, 0), 2);
        due("whose is 1", x.cell(1, 0, 1), -1);
        due("is 1 a hedge", x.cell(1, 0, 2), 1);
        due("whose is 0", x.cell(0, 0, 1), 2);
        due("is 0 a hedge", x.cell(0, 0, 2), 0);
        due("whose is 63", x.cell(63, 0, 1), -1);
        due("is 63 a hedge", x.cell(63, 0, 2), 0);
        due("light of 63", x.cell(63, 0, 0), 0);
        x.candle(0, 1, 4, 0, 12);
        due("a third, stronger than two alike", x.cell(1, 0, 1), 0);
        due("no hedge then", x.cell(1, 0, 2), 0);
        x.light(3, 0);
        x.light(2, 0);
        due("whose is 1 in hour 2", x.cell(1, 2, 1), 3);
        int[][] bad = {{-1, 0, 0}, {64, 0, 0}, {0, -1, 0}, {0, 12, 0}, {0, 0, -1}, {0, 0, 3}};
        for (int[] b : bad) {
            due("cell, bad", x.cell(b[0], b[1], b[2]), -10);
        }
        refusals(x, 6, 0, 0);
    }

    private static void acresAndHedges() {
        promise = 14;
        CandleLand x = new CandleLand();
        x.candle(0, 0, 2, 1, 3);
        x.candle(0, 2, 2, 2, 12);
        due("acres(1, 0, -1)", x.acres(1, 0, -1), 2);
        due("acres(1, 0, 0)", x.acres(1, 0, 0), 0);
        due("acres(1, 0, 1)", x.acres(1, 0, 1), 8);
        due("acres(1, 0, 2)", x.acres(1, 0, 2), -5);
        due("acres(1, 0, most)", x.acres(1, 0, Integer.MAX_VALUE), -5);
        due("acres(2, 0, -1)", x.acres(2, 0, -1), 3);
        due("acres(2, 0, 2)", x.acres(2, 0, 2), 10);
        due("acres(2, 3, 1)", x.acres(2, 3, 1), 2);
        due("acres(1, 3, -1)", x.acres(1, 3, -1), 0);
        due("acres(-1, 0, 0)", x.acres(-1, 0, 0), -10);
        due("acres(4, 0, 0)", x.acres(4, 0, 0), -10);
        due("acres(0, -1, 0)", x.acres(0, -1, 0), -10);
        due("acres(0, 12, 0)", x.acres(0, 12, 0), -10);
        due("acres(0, 0, -2)", x.acres(0, 0, -2), -10);
        refusals(x, 5, 0, 0);
        promise = 15;
        due("hedges(0, -1)", x.hedges(0, -1), 1);
        due("hedges(0, 0)", x.hedges(0, 0), 1);
        due("hedges(0, 1)", x.hedges(0, 1), -5);
        due("hedges(3, -1)", x.hedges(3, -1), 0);
        due("hedges(-1, 0)", x.hedges(-1, 0), -10);
        due("hedges(12, 0)", x.hedges(12, 0), -10);
        due("hedges(0, -2)", x.hedges(0, -2), -10);
        refusals(x, 8, 0, 0);
    }

    private static void dark() {
        promise = 16;
        CandleLand x = new CandleLand();
        due("dark of all", x.dark(5, 3, 1), 3);
        x.candle(0, 0, 20, 0, 5);
        x.candle(0, 0, 9, 0, 8);
        due("dark(0, 0, 10)", x.dark(0, 0, 10), 5);
        due("dark(0, 0, 9)", x.dark(0, 0, 9), 8);
        due("dark(0, 6, 10)", x.dark(0, 6, 10), 6);
        due("dark(0, 0, 20)", x.dark(0, 0, 20), 5);
        x.candle(5, 0, 1, 1, 0);
        due("dark(0, 0, 1)", x.dark(0, 0, 1), 12);
        due("dark(0, 11, 1)", x.dark(0, 11, 1), 12);
        x.light(0, 0);
        due("dark, one is out", x.dark(0, 0, 10), 0);
        int[][] bad = {{-1, 0, 1}, {64, 0, 1}, {0, -1, 1}, {0, 12, 1}, {0, 0, 0}, {0, 0, 21}};
        for (int[] b : bad) {
            due("dark, bad", x.dark(b[0], b[1], b[2]), -2);
        }
        refusals(x, 6, 0, 0);
    }

    private static void wantAndForget() {
        promise = 17;
        CandleLand x = new CandleLand();
        due("want(-1)", x.want(-1), -2);
        due("want(64)", x.want(64), -2);
        for (int i = 1; i <= 6; i++) {
            due("want(63)", x.want(63), i);
        }
        due("the 7th", x.want(0), -4);
        due("the 7th, bad", x.want(64), -2);
        due("digest()", x.digest(), mixed(0, 0, 0, 6, 0, 0, 0, 63, 63, 63, 63, 63, 63, 0, 1));
        refusals(x, 3, 0, 1);
        promise = 18;
        due("forget()", x.forget(), 6);
        due("forget()", x.forget(), 0);
        due("count(3)", x.count(3), 0);
        due("want(0)", x.want(0), 1);
    }

    private static void lightingAndTallow() {
        promise = 19;
        CandleLand x = new CandleLand();
        due("none wanted", x.lighting(0, 20), 0);
        x.candle(0, 0, 3, 0, 2);
        x.candle(0, 63, 3, 1, 3);
        x.candle(0, 0, 20, 2, 9);
        x.candle(0, 7, 20, 3, 6);
        x.light(2, 0);
        x.want(0);
        x.want(63);
        due("one by far, though it is out", x.lighting(0, 6), 4);
        due("of like ones the least", x.lighting(4, 6), 4);
        due("by the first, the second", x.lighting(0, 3), 4);
        due("none, though all were lit", x.lighting(0, 14), -1);
        due("hour 10", x.lighting(10, 1), -1);
        x.forget();
        x.want(0);
        due("three would do: the least bits", x.lighting(0, 3), 1);
        due("when the first is burnt", x.lighting(2, 3), 4);
        x.forget();
        x.want(0);
        x.want(7);
        due("two are needed", x.lighting(0, 14), 12);
        due("lighting(-1, 1)", x.lighting(-1, 1), -2);
        due("lighting(12, 1)", x.lighting(12, 1), -2);
        due("lighting(0, 0)", x.lighting(0, 0), -2);
        due("lighting(0, 21)", x.lighting(0, 21), -2);
        promise = 20;
        due("tallow(0, 14)", x.tallow(0, 14), 15);
        due("tallow(0, 15)", x.tallow(0, 15), 15);
        due("tallow(0, 13)", x.tallow(0, 13), 6);
        due("tallow(9, 1)", x.tallow(9, 1), -1);
        x.forget();
        due("none wanted", x.tallow(0, 20), 0);
        x.want(0);
        x.want(63);
        due("two cheap ones", x.tallow(0, 3), 5);
        due("tallow(-1, 1)", x.tallow(-1, 1), -2);
        due("tallow(12, 1)", x.tallow(12, 1), -2);
        due("tallow(0, 0)", x.tallow(0, 0), -2);
        due("tallow(0, 21)", x.tallow(0, 21), -2);
        refusals(x, 8, 0, 0);
    }

    private static void put() {
        promise = 21;
        CandleLand x = new CandleLand();
        due("put(0, 0)", x.put(0, 0), -2);
        x.candle(0, 63, 2, 0, 3);
        due("five cells first by 9", x.put(0, 0), 9);
        due("burnt: the first", x.put(0, 3), 0);
        x.candle(0, 9, 2, 0, 12);
        due("not over its own", x.put(0, 0), 12);
        x.candle(0, 12, 3, 1, 12);
        due("nor the rival's", x.put(0, 0), 26);
        due("of(0, 1)", x.of(0, 1), 63);
        due("count(5)", x.count(5), 0);
        putFar();
        x.light(0, 0);
        due("out: the first", x.put(0, 0), 0);
        due("put(-1, 0)", x.put(-1, 0), -2);
        due("put(3, 0)", x.put(3, 0), -2);
        due("put(0, -1)", x.put(0, -1), -2);
        due("put(0, 12)", x.put(0, 12), -2);
        refusals(x, 5, 0, 0);
    }

    private static void putFar() {
        CandleLand x = new CandleLand();
        x.candle(5, 9, 15, 0, 12);
        due("a star that lights all from its corner", x.put(0, 0), 0);
        x.candle(0, 0, 1, 1, 12);
        due("one cell is a hedge wherever it is", x.put(0, 0), 0);
        x.candle(5, 9, 14, 0, 12);
        due("from the corner it would lack one", x.put(2, 0), 0);
        x.light(0, 0);
        due("all but the hedge, from beside the corner", x.put(2, 0), 1);
        x.light(1, 0);
        due("from the corner it lacks the far one", x.put(2, 0), 1);
        x.valley(0);
        x.candle(0, 63, 1, 0, 12);
        x.candle(0, 0, 1, 0, 12);
        due("its own has the first", x.put(0, 0), 1);
    }

    private static void thief() {
        promise = 22;
        CandleLand x = new CandleLand();
        due("steps", x.thief(0, 63, 0, 1, 0), 14);
        due("the least of like ways", x.thief(0, 63, 0, 1, 1), 1);
        due("backwards", x.thief(63, 0, 0, 1, 1), 55);
        due("not around the edge", x.thief(7, 8, 0, 1, 0), 8);
        due("one step", x.thief(8, 0, 0, 1, 0), 1);
        due("one step", x.thief(8, 0, 0, 1, 1), 0);
        due("where he is", x.thief(9, 9, 0, 1, 0), 0);
        due("where he is", x.thief(9, 9, 0, 1, 1), 9);
        for (int row = 0; row < 7; row++) {
            x.candle(0, 8 * row + 3, 1, 0, 1);
        }
        due("around the wall", x.thief(2, 4, 0, 1, 0), 16);
        due("around the wall, the least first", x.thief(2, 4, 0, 1, 1), 1 + 9);
        due("through it, when it is burnt", x.thief(2, 4, 1, 1, 0), 2);
        due("through it, by n", x.thief(2, 4, 0, 2, 1), 3);
        due("from the light", x.thief(3, 4, 0, 1, 0), -1);
        due("to the light", x.thief(2, 3, 0, 1, 1), -1);
        due("in the light", x.thief(3, 3, 0, 1, 0), -1);
        x.move(0, 59);
        due("the gap is above now", x.thief(2, 4, 0, 1, 0), 2);
        due("of(0, 1)", x.of(0, 1), 59);
        int[][] bad = {{-1, 0, 0, 1, 0}, {64, 0, 0, 1, 0}, {0, -1, 0, 1, 0}, {0, 64, 0, 1, 0}, {0, 0, -1, 1, 0},
            {0, 0, 12, 1, 0}, {0, 0, 0, 0, 0}, {0, 0, 0, 21, 0}, {0, 0, 0, 1, -1}, {0, 0, 0, 1, 2}};
        for (int[] b : bad) {
            due("thief, bad", x.thief(b[0], b[1], b[2], b[3], b[4]), -2);
        }
        refusals(x, 10, 0, 0);
    }

    private static void wedding() {
        promise = 23;
        CandleLand x = new CandleLand();
        x.candle(0, 0, 2, 1, 12);
        x.candle(0, 2, 2, 2, 12);
        x.candle(0, 1, 1, 3, 1);
        due("one hedge falls", x.wedding(1, 2, 1), 1);
        due("a third is alike strong there", x.wedding(1, 2, 0), 0);
        due("the same the other way", x.wedding(2, 1, 1), 1);
        due("with nobody", x.wedding(0, 1, 0), 0);
        due("wedding(1, 1, 0)", x.wedding(1, 1, 0), -100);
        due("wedding(-1, 1, 0)", x.wedding(-1, 1, 0), -100);
        due("wedding(1, 4, 0)", x.wedding(1, 4, 0), -100);
        due("wedding(0, 1, -1)", x.wedding(0, 1, -1), -100);
        due("wedding(0, 1, 12)", x.wedding(0, 1, 12), -100);
        refusals(x, 5, 0, 0);
    }

    private static void spite() {
        promise = 24;
        CandleLand x = new CandleLand();
        due("without candles all rest", x.spite(0, 1, 0, 99), 15);
        x.candle(0, 0, 1, 0, 12);
        x.candle(0, 0, 1, 0, 12);
        x.candle(0, 63, 1, 1, 12);
        x.light(2, 0);
        due("free: a has more by light, b too", x.spite(0, 1, 0, 0), 8);
        due("two at 4 are 0 by 10 (cut)", x.spite(0, 1, 0, 4), 8);
        due("two at 5 are 1: a is alike", x.spite(0, 1, 0, 5), 12);
        due("b by 10 is alike, a has less", x.spite(0, 1, 0, 10), 5);
        due("the other way round", x.spite(1, 0, 0, 5), 10);
        x.candle(0, 0, 20, 3, 12);
        due("a third takes all", x.spite(0, 1, 0, 5), 5);
        due("count(2)", x.count(2), 11);
        spiteOfOne();
        int[][] bad = {{0, 0, 0, 0}, {-1, 0, 0, 0}, {4, 0, 0, 0}, {0, -1, 0, 0}, {0, 4, 0, 0}, {0, 1, -1, 0},
            {0, 1, 12, 0}, {0, 1, 0, -1}, {0, 1, 0, 100}};
        for (int[] b : bad) {
            due("spite, bad", x.spite(b[0], b[1], b[2], b[3]), -2);
        }
        refusals(x, 9, 0, 0);
    }

    private static void spiteOfOne() {
        CandleLand x = new CandleLand();
        x.candle(0, 0, 2, 0, 12);
        x.candle(0, 0, 1, 1, 12);
        due("b has a cell where a is out", x.spite(0, 1, 0, 0), 10);
        due("b's light costs a cell", x.spite(0, 1, 0, 10), 2);
        due("a's light costs three of three, too", x.spite(0, 1, 0, 30), 3);
        due("a's light costs more than it has", x.spite(0, 1, 0, 40), 1);
    }

    private static void readings() {
        promise = 25;
        CandleLand x = new CandleLand();
        int[][] bad = {{-1, 0, 0}, {64, 0, 0}, {0, -1, 0}, {0, 12, 0}, {0, 0, -1}, {0, 0, 24}};
        for (int[] b : bad) {
            due("reading, bad", x.reading(b[0], b[1], b[2]), -2);
        }
        for (int i = 1; i <= 6; i++) {
            due("reading(63, 11, 23)", x.reading(63, 11, 23), i);
        }
        due("the 7th", x.reading(0, 0, 0), -4);
        due("the 7th, bad", x.reading(0, 12, 0), -2);
        refusals(x, 7, 0, 1);
        promise = 26;
        due("burnt()", x.burnt(), 6);
        due("burnt()", x.burnt(), 0);
        due("reading(1, 2, 3)", x.reading(1, 2, 3), 1);
        due("digest()", x.digest(), mixed(0, 0, 0, 0, 1, 0, 0, 1, 2, 3, 0, 1));
    }

    private static void burnAndMeasure() {
        promise = 27;
        CandleLand x = new CandleLand();
        due("the empty set", x.burn(0), 1);
        due("the empty set", x.burn(1), 0);
        x.candle(0, 0, 5, 0, 12);
        x.candle(0, 0, 5, 1, 12);
        x.candle(0, 63, 9, 2, 12);
        x.light(0, 0);
        due("all sets", x.burn(0), 8);
        x.reading(0, 0, 5);
        due("two of the first, the third either way", x.burn(0), 6);
        due("in all", x.burn(1), 0);
        x.reading(63, 0, 9);
        due("burn(0)", x.burn(0), 3);
        due("burn(1)", x.burn(1), 4);
        x.reading(62, 0, 0);
        due("none", x.burn(0), 0);
        due("none", x.burn(1), -1);
        x.burnt();
        x.reading(0, 0, 4);
        due("5 is not 4", x.burn(0), 0);
        burnOfOne();
        promise = 28;
        due("none", x.measure(0), -1);
        x.burnt();
        x.reading(63, 0, 9);
        due("where the third is stronger nothing is told", x.measure(0), 0);
        x.burnt();
        x.reading(0, 0, 0);
        due("only the third is open, and reaches as far as 8", x.measure(0), 6);
        due("count(2)", x.count(2), 6);
        promise = 27;
        due("dark by 0: the first two are out", x.burn(0), 2);
        due("burn(-1)", x.burn(-1), -10);
        due("burn(2)", x.burn(2), -10);
        promise = 28;
        due("measure(-1)", x.measure(-1), -2);
        due("measure(12)", x.measure(12), -2);
        due("no candles", new CandleLand().measure(5), 0);
        refusals(x, 4, 0, 0);
    }

    private static void burnOfOne() {
        CandleLand x = new CandleLand();
        x.candle(1, 0, 20, 0, 12);
        x.candle(0, 63, 20, 0, 12);
        due("both open: told apart by both lights", x.measure(0), 0);
        due("the same again", x.measure(0), 0);
        x.reading(0, 0, 23);
        due("burn(0)", x.burn(0), 2);
        due("the first is in all", x.burn(1), 1);
        due("the second is told where it is stronger: as far as 9", x.measure(0), 23);
        x.reading(0, 0, 22);
        due("burn(0)", x.burn(0), 0);
    }

    private static void draughtAndPart() {
        promise = 29;
        CandleLand x = new CandleLand();
        due("draught(0, 0, 0, 10)", x.draught(0, 0, 0, 10), 1);
        due("light by 0 always", x.part(0), 1);
        for (int k = 0; k < 7; k++) {
            x.candle(1, 0, 20, 0, 4);
        }
        x.light(6, 0);
        due("draught(0, 0, 23, 2)", x.draught(0, 0, 23, 2), 1);
        due("above", x.part(0), 15624);
        due("below", x.part(1), 15625);
        due("draught(0, 0, 1, 0)", x.draught(0, 0, 1, 0), 1);
        due("above", x.part(0), 1);
        due("below", x.part(1), 1);
        due("draught(0, 2, 1, 3), burnt", x.draught(0, 2, 1, 3), 1);
        due("above", x.part(0), 0);
        due("below", x.part(1), 1);
        x.light(6, 1);
        due("draught(0, 1, 23, 7)", x.draught(0, 1, 23, 7), 1);
        int[][] bad = {{-1, 0, 0, 0}, {64, 0, 0, 0}, {0, -1, 0, 0}, {0, 12, 0, 0}, {0, 0, -1, 0}, {0, 0, 24, 0},
            {0, 0, 0, -1}, {0, 0, 0, 11}};
        for (int[] b : bad) {
            due("draught, bad", x.draught(b[0], b[1], b[2], b[3]), -2);
        }
        promise = 31;
        due("above", x.part(0), 9176457);
        due("below", x.part(1), 10000000);
        due("part(-1)", x.part(-1), -2);
        due("part(2)", x.part(2), -2);
        refusals(x, 10, 0, 0);
    }

    private static void nights() {
        promise = 30;
        CandleLand x = new CandleLand();
        due("no candles", x.nights(0, 0, 30, 100), 0);
        x.candle(0, 0, 1, 0, 1);
        x.candle(0, 63, 1, 1, 1);
        // X: 12345 (by 65536: 0), 1406932606 (21468: 68), 654583775 (9988: 88), 1449466924 (22117: 17)
        due("w = 100", x.nights(0, 0, 2, 100), 2);
        due("w = 0", x.nights(0, 0, 30, 0), 0);
        due("w = 1, owner 0", x.nights(0, 0, 2, 1), 1);
        due("w = 68, owner 1, first night", x.nights(1, 0, 1, 68), 0);
        due("w = 69, owner 1, first night", x.nights(1, 0, 1, 69), 1);
        due("w = 69, owner 1, both nights", x.nights(1, 0, 2, 69), 2);
        due("w = 88, owner 0, both nights", x.nights(0, 0, 2, 88), 1);
        due("w = 89, owner 0, both nights", x.nights(0, 0, 2, 89), 2);
        due("no nights", x.nights(0, 999999, 0, 100), 0);
        due("count(2)", x.count(2), 3);
        int[][] bad = {{-1, 0, 0, 0}, {4, 0, 0, 0}, {0, -1, 0, 0}, {0, 1000000, 0, 0}, {0, 0, -1, 0}, {0, 0, 31, 0},
            {0, 0, 0, -1}, {0, 0, 0, 101}};
        for (int[] b : bad) {
            due("nights, bad", x.nights(b[0], b[1], b[2], b[3]), -2);
        }
        refusals(x, 8, 0, 0);
    }

    private static void images() {
        promise = 32;
        CandleLand x = busy();
        due("image(-1)", x.image(-1), -2);
        due("image(2)", x.image(2), -2);
        due("image(1)", x.image(1), 1);
        long kept = x.digest();
        promise = 33;
        due("from(-1)", x.from(-1), -2);
        due("from(2)", x.from(2), -2);
        due("from(0)", x.from(0), -3);
        x.valley(1);
        x.candle(5, 5, 5, 2, 5);
        due("from(1)", x.from(1), 1);
        due("digest()", x.digest(), kept);
        due("what may be undone is kept", x.undo(), 3);
        due("of(0, 1)", x.of(0, 1), 8);
        due("undo()", x.undo(), 3);
        due("of(0, 1)", x.of(0, 1), 0);
        x.move(0, 33);
        x.want(9);
        due("from(1) again", x.from(1), 1);
        due("the image is as it was", x.digest(), kept);
        due("image(1) anew", x.image(0), 1);
        x.draught(0, 0, 0, 0);
        x.type('b');
        x.from(0);
        due("the fraction stays", x.part(1), 1);
        due("the text stays", x.count(6), 2);
        refusals(x, 4, 1, 0);
        imagesOfMany();
    }

    private static void imagesOfMany() {
        CandleLand x = new CandleLand();
        x.candle(0, 1, 5, 0, 5);
        x.candle(0, 2, 5, 1, 5);
        for (int i = 0; i < 6; i++) {
            x.want(10 + i);
            x.reading(20 + i, i, 3 + i);
        }
        for (int i = 0; i < 4; i++) {
            x.move(1, 30 + i);
            x.light(1, i % 2);
        }
        x.image(0);
        long kept = x.digest();
        x.valley(0);
        x.candle(1, 3, 6, 2, 6);
        for (int i = 0; i < 6; i++) {
            x.want(40);
            x.reading(41, 7, 9);
        }
        for (int i = 0; i < 8; i++) {
            x.move(0, 50 + i);
        }
        x.image(1);
        due("from(0)", x.from(0), 1);
        due("digest()", x.digest(), kept);
        int[] lit = {1, 1, 3, 3, 1, 1, 3, 3};
        int[] cells = {33, 32, 32, 31, 31, 30, 30, 2};
        for (int i = 0; i < 8; i++) {
            due("undo()", x.undo(), lit[i]);
            due("of(1, 1)", x.of(1, 1), cells[i]);
        }
        due("from(1)", x.from(1), 1);
        due("undo()", x.undo(), 1);
        due("of(0, 1)", x.of(0, 1), 56);
    }

    private static void statusAndCount() {
        promise = 34;
        CandleLand x = new CandleLand();
        due("status(-1)", x.status(-1), -1);
        due("status(3)", x.status(3), -1);
        x.undo();
        x.acres(0, 0, 0);
        x.read();
        x.wedding(0, 0, 0);
        x.cell(64, 0, 0);
        x.lighting(0, 1);
        for (int k = 0; k < 9; k++) {
            x.candle(0, 0, 1, 0, 0);
        }
        refusals(x, 4, 1, 2);
        promise = 35;
        x = busy();
        int[] counts = {2, 3, 1, 1, 1, 2, 1};
        for (int what = 0; what <= 6; what++) {
            due("count(" + what + ")", x.count(what), counts[what]);
        }
        due("count(-1)", x.count(-1), -2);
        due("count(7)", x.count(7), -2);
        refusals(x, 2, 0, 0);
        promise = 36;
        due("digest of a new one", new CandleLand().digest(), mixed(0, 0, 0, 0, 0, 0, 0, 0, 1));
        due("digest()", x.digest(), mixed(2, 3, 1, 1, 1, 2, 1, 0, 8, 20, 0, 12, 0, 63, 20, 1, 12, 5, 6, 7, 8, 1, 2));
    }

    public static void main(String[] args) {
        newObject();
        valley();
        fog();
        candle();
        move();
        light();
        undo();
        typeAndClear();
        read();
        of();
        shines();
        cell();
        acresAndHedges();
        dark();
        wantAndForget();
        lightingAndTallow();
        put();
        thief();
        wedding();
        spite();
        readings();
        burnAndMeasure();
        draughtAndPart();
        nights();
        images();
        statusAndCount();
        System.out.println(wrong == 0 ? "all answers are as due" : wrong + " answers are not as due");
        if (wrong != 0) {
            System.exit(1);
        }
    }
}
