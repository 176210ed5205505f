/** The edges of THE TEXT: how long it may be, its tokens, each FAULT by itself, what a VALLEY that is read replaces. */
public final class TextEdgeTests {
    private static final String CANDLE = "candle 0 0 1 0 0;";
    private static final String SEVEN = "valley 1;" + CANDLE.repeat(7);

    /** Read by a new object: how many items. */
    private static CandleLand read(String text, int items) {
        CandleLand x = new CandleLand();
        Check.text(x, text);
        Check.due(x, items, "read");
        return x;
    }

    /** The fault is where a stroke stands in the text; all stays, and it is no refusal. */
    private static void fault(String marked) {
        int place = marked.indexOf('|');
        String text = marked.substring(0, place) + marked.substring(place + 1);
        CandleLand x = new CandleLand();
        x.candle(3, 9, 8, 2, 7);
        x.move(0, 10);
        x.light(0, 0);
        x.want(4);
        x.reading(5, 6, 7);
        Check.text(x, text);
        long before = Calls.answer(x, "digest");
        long got = Calls.answer(x, "read");
        if (got != -10 - place) {
            Check.fail("read of '" + marked + "' answered " + got + ", due is " + (-10 - place));
        }
        Check.due(x, before, "digest");
        Check.refused(x, 0, 0, 0);
        Check.due(x, 1, "undo");
        Check.due(x, 1, "undo");
        Check.due(x, 9, "of", 0, 1);
    }

    private static void length() {
        Check.says("THE VALLEY is told by a TEXT (150 bytes at most)");
        CandleLand x = new CandleLand();
        Check.due(x, 0, "count", 6);
        for (int i = 1; i <= 150; i++) {
            Check.due(x, i, "type", i == 1 ? 'v' : 'a');
            Check.due(x, i, "count", 6);
        }
        for (int c = 0; c < 128; c += 127) {
            Check.due(x, -4, "type", c);
            Check.due(x, 150, "count", 6);
        }
        Check.refused(x, 0, 0, 2);
        Check.says("`int clear()`: THE TEXT is empty: how many it had.");
        Check.due(x, -10, "read");
        Check.due(x, 150, "clear");
        Check.due(x, 0, "count", 6);
        Check.due(x, 0, "clear");
        Check.due(x, 1, "type", ' ');
        Check.due(x, 1, "clear");
        Check.due(x, -10, "read");
        Check.refused(x, 0, 0, 2);
        Check.says("how many ITEMS.");
        StringBuilder most = new StringBuilder("valley0;candle0 0 1 0 0;");
        while (most.length() <= 145) {
            most.append("out0;");
        }
        most.insert(0, " ".repeat(150 - most.length()));
        x = read(most.toString(), 27);
        Check.due(x, 0, "count", 2);
        Check.due(x, 150, "count", 6);
        read(SEVEN + "   out 06  ;" + " ".repeat(150 - SEVEN.length() - 12), 9);
        read(SEVEN + "out 00006;", -10 - SEVEN.length() - 4);
    }

    /** The byte after the last that there is room for is not read as if it had come. */
    private static void textThatIsFull() {
        Check.says("A byte (0 .. 127) comes behind THE TEXT: how many it has. BAD; FULL.");
        CandleLand x = new CandleLand();
        String text = " ".repeat(141) + "valley 1 ";
        Check.text(x, text);
        Check.due(x, -4, "type", ';');
        Check.due(x, -10 - 150, "read");
        Check.due(x, 150, "clear");
        Check.text(x, "valley 1;");
        Check.due(x, 1, "read");
        fault(" ".repeat(142) + "valley 1|");
        fault(" ".repeat(144) + "valley|");
        fault("|" + "z".repeat(150));
        read(" ".repeat(141) + "valley 9;", 1);
    }

    /** What was there ahead of it is not read on behind a shorter text. */
    private static void textThatWasCleared() {
        Check.says("`int clear()`: THE TEXT is empty: how many it had.");
        CandleLand x = new CandleLand();
        Check.text(x, "valley 12;out");
        Check.due(x, -17, "read");
        Check.text(x, "valle");
        Check.due(x, -10, "read");
        Check.text(x, "valley 1");
        Check.due(x, -18, "read");
        Check.text(x, "valley 2;");
        Check.due(x, 1, "read");
        Check.due(x, 9, "clear");
        Check.due(x, -10, "read");
        Check.due(x, 2, "count", 1);
    }

    /** A valley is read anew each time, whatever was read ahead of it, well or not. */
    private static void readAgain() {
        Check.says("`int read()`: THE VALLEY is read: how many ITEMS. -10 less the FAULT: all stays.");
        CandleLand x = new CandleLand();
        Check.text(x, "valley 2;candle 2 3 4 1 5;candle 0 9 8 3 7;out 0;");
        for (int i = 0; i < 3; i++) {
            Check.due(x, 4, "read");
            Check.due(x, Check.mixed(2, 2, 2, 0, 0, 0, 49, 2, 3, 4, 1, 5, 0, 9, 8, 3, 7, 0, 1), "digest");
        }
        Check.due(x, 50, "type", '!');
        for (int i = 0; i < 3; i++) {
            Check.due(x, -59, "read");
            Check.due(x, 2, "count", 0);
        }
        Check.text(x, "valley 3;candle 1 1 1 1 1;");
        Check.due(x, 2, "read");
        Check.due(x, Check.mixed(1, 3, 1, 0, 0, 0, 26, 1, 1, 1, 1, 1, 0, 1), "digest");
        Check.refused(x, 0, 0, 0);
    }

    private static void bytes() {
        Check.says("A byte (0 .. 127) comes behind THE TEXT");
        CandleLand x = new CandleLand();
        for (int c = 0; c < 128; c++) {
            Check.due(x, c + 1, "type", c);
        }
        Check.refused(x, 0, 0, 0);
        Check.due(x, -2, "type", -1);
        Check.due(x, -2, "type", 128);
        Check.due(x, -2, "type", 256 + 'v');
        Check.due(x, 128, "count", 6);
        Check.refused(x, 3, 0, 0);
        Check.says("a byte that begins none, too");
        for (int c = 0; c < 128; c++) {
            boolean begins = c == ' ' || c == ';' || c >= '0' && c <= '9' || c >= 'a' && c <= 'z';
            if (!begins) {
                fault("|" + (char) c + "valley 1;");
                fault("valley|" + (char) c + "1;");
                fault("valley 1|" + (char) c + ";");
                fault("valley 1;|" + (char) c);
            }
        }
        fault("|Valley 1;");
        fault("valley 1;out |-1;");
        fault("valley|\t1;");
        fault("valley 1;|\n");
        fault("valley |+1;");
        fault("valley 1|.0;");
    }

    private static void tokens() {
        Check.says("TOKENS: words of letters a .. z");
        fault("|avalley 1;");
        fault("|valleyz 1;");
        fault("valley 1;|z");
        fault("valley|_1;");
        fault("valley|A 1;");
        Check.says("figures (1 or 2 are one number)");
        read("valley 0;", 1);
        read("valley 00;", 1);
        Check.due(read("valley 09;", 1), 9, "count", 1);
        Check.due(read("valley 9;", 1), 9, "count", 1);
        CandleLand x = read("valley 01;candle 05 63 20 03 12;candle 5 3 01 3 2;", 3);
        Check.due(x, Check.mixed(2, 1, 3, 0, 0, 0, 50, 5, 63, 20, 3, 12, 5, 3, 1, 3, 2, 0, 1), "digest");
        Check.says("TOKENS: words of letters a .. z, figures (1 or 2 are one number), ; ; blanks (32) between.");
        read("valley 1;", 1);
        read("   valley    1   ;   ", 1);
        read(" valley 1 ; candle  0  0  1  0  0 ; out  0 ; ", 3);
        read("valley1;candle0 0 1 0 0;out0;", 3);
        fault("|v alley 1;");
        fault("valley 1;|can dle 0 0 1 0 0;");
        fault("valley 1;candle 0 0 1 0 0;|o ut 0;");
        fault("valley 0 |9;");
    }

    private static void numbersAsTold() {
        Check.says("candle KIND CELL HEIGHT OWNER TALLOW; out k.");
        CandleLand x = read("valley 0;candle 0 0 1 0 0;candle 5 63 20 3 12;out 1;", 4);
        Check.due(x, Check.mixed(2, 0, 1, 0, 0, 0, 52, 0, 0, 1, 0, 0, 5, 63, 20, 3, 12, 0, 1), "digest");
        Check.says("a number not as told");
        fault("valley |10;");
        fault("valley |99;");
        fault("valley 1;candle |6 0 1 0 0;");
        fault("valley 1;candle |99 0 1 0 0;");
        fault("valley 1;candle 0 |64 1 0 0;");
        fault("valley 1;candle 0 |99 1 0 0;");
        fault("valley 1;candle 0 0 |0 0 0;");
        fault("valley 1;candle 0 0 |00 0 0;");
        fault("valley 1;candle 0 0 |21 0 0;");
        fault("valley 1;candle 0 0 |99 0 0;");
        fault("valley 1;candle 0 0 1 |4 0;");
        fault("valley 1;candle 0 0 1 |99 0;");
        fault("valley 1;candle 0 0 1 0 |13;");
        fault("valley 1;candle 0 0 1 0 |99;");
        Check.says("a third figure's number");
        fault("valley |000;");
        fault("valley |001;");
        fault("valley |0000;");
        fault("valley 1;candle |005 0 1 0 0;");
        fault("valley 1;candle 0 |063 1 0 0;");
        fault("valley 1;candle 0 0 |020 0 0;");
        fault("valley 1;candle 0 0 1 |003 0;");
        fault("valley 1;candle 0 0 1 0 |012;");
        fault("valley 1;candle 0 0 1 0 |000");
        fault("valley 1;candle 0 0 1 0 0;out |000;");
        fault("valley |" + "0".repeat(140) + ";");
        // that many figures that they would be a number as told again, were they reckoned in an int
        fault("valley |4294967296;");
        fault("valley |18446744073709551617;");
    }

    private static void words() {
        Check.says("a word that is none");
        fault("|a");
        fault("|val");
        fault("|valle");
        fault("|valleys 1;");
        fault("|galley 1;");
        fault("|vallex 1;");
        fault("|" + "valley".repeat(20));
        fault("valley 1|z;");
        fault("valley 1;|c");
        fault("valley 1;|candl 0 0 1 0 0;");
        fault("valley 1;|candles 0 0 1 0 0;");
        fault("valley 1;|dandle 0 0 1 0 0;");
        fault("valley 1;" + CANDLE + "|ou 0;");
        fault("valley 1;" + CANDLE + "|outs 0;");
        fault("valley 1;" + CANDLE + "|oux 0;");
        fault("valley 1;" + CANDLE + "|lit 0;");
        Check.says("valley FOG (once, first of all)");
        read("valley 9;", 1);
        Check.says("valley again");
        fault("valley 1;|valley 1;");
        fault("valley 1;  |valley");
        fault(SEVEN + "|valley 1;");
        Check.says("anything ahead of it");
        fault("|candle 0 0 1 0 0;valley 1;");
        fault("  |out 0;valley 1;");
        fault("|;valley 1;");
        fault("|1 valley 1;");
        fault(" |0;");
    }

    private static void candlesThatAreNotThere() {
        Check.says("an 8th candle at its word");
        CandleLand x = read(SEVEN, 8);
        Check.due(x, 7, "count", 0);
        Check.due(x, 127, "count", 2);
        fault(SEVEN + "|candle");
        fault(SEVEN + " |candle 0 0 1");
        fault(SEVEN + "out 6;|candle 99");
        fault(SEVEN + "|cand");
        Check.says("also a CANDLE that is not there yet");
        fault("valley 1;out |0;");
        fault("valley 1;out |0;candle 0 0 1 0 0;");
        fault("valley 1;" + CANDLE + "out |1;");
        fault("valley 1;" + CANDLE + "out |1;" + CANDLE);
        fault(SEVEN + "out |7;");
        fault(SEVEN + "out |99;");
        Check.due(read("valley 1;" + CANDLE + "out 0;", 3), 0, "count", 2);
        Check.due(read("valley 1;" + CANDLE + "out 0;" + CANDLE + "out 1;" + CANDLE, 6), 4, "count", 2);
        Check.due(read(SEVEN + "out 6;out 06;out 0;", 11), 62, "count", 2);
    }

    /** Each place of an item, with each token that can not stand there. */
    private static void eachPlace() {
        Check.says("FAULT: the place of the first byte of the first TOKEN that can not stand there");
        for (String other : new String[] {";", "valley", "candle", "out", "x"}) {
            fault("valley |" + other);
            fault("valley 1;candle |" + other);
            fault("valley 1;candle 0 |" + other);
            fault("valley 1;candle 0 0 |" + other);
            fault("valley 1;candle 0 0 1 |" + other);
            fault("valley 1;candle 0 0 1 0 |" + other);
            fault("valley 1;" + CANDLE + "out |" + other);
        }
        Check.says("of ITEMS, each ended by ; :");
        for (String other : new String[] {"0", "valley", "candle", "out", "x"}) {
            fault("valley 1 |" + other);
            fault("valley 1;candle 0 0 1 0 0 |" + other);
            fault("valley 1;" + CANDLE + "out 0 |" + other);
        }
        fault("valley 1;|;");
        fault("valley 1;" + CANDLE + "|0");
        fault("valley |;x 99 !");
    }

    /** Every beginning of a text: it is whole behind each ; and ends too early elsewhere, or within a word. */
    private static void tooEarly() {
        Check.says("the TEXT's length, if it ends too early (an empty one, too).");
        fault("|");
        fault(" |");
        fault(" ".repeat(150) + "|");
        String text = "valley 1 ; candle 5 63 20 3 12 ; out 0 ; ";
        int items = 0;
        int word = -1;
        for (int end = 0; end <= text.length(); end++) {
            String cut = text.substring(0, end);
            char last = end == 0 ? ' ' : text.charAt(end - 1);
            items += last == ';' ? 1 : 0;
            boolean letter = last >= 'a' && last <= 'z';
            word = letter && word < 0 ? end - 1 : letter ? word : -1;
            String tail = word < 0 ? "" : cut.substring(word);
            if (letter && !tail.equals("valley") && !tail.equals("candle") && !tail.equals("out")) {
                fault(cut.substring(0, word) + "|" + tail);
            } else if (items > 0 && cut.trim().endsWith(";")) {
                read(cut, items);
            } else {
                fault(cut + "|");
            }
        }
    }

    private static void replaces() {
        Check.says("A VALLEY that is read takes the place of all but IMAGES, THE TEXT, THE FRACTION, STATUS "
                + "(WANTED, READINGS none; nothing to undo).");
        CandleLand x = new CandleLand();
        x.fog(7);
        for (int k = 0; k < 7; k++) {
            x.candle(1, 10 + k, 20, 1, 12);
            x.want(Math.min(k, 5));
            x.reading(k, k, k);
        }
        x.image(1);
        for (int k = 0; k < 7; k++) {
            x.light(k, 0);
            x.move(k, 40);
        }
        x.draught(0, 0, 0, 3);
        x.undo();
        x.status(9);
        x.type('z');
        x.clear();
        Check.refused(x, 1, 0, 2);
        Check.text(x, "valley 2;candle 2 3 4 1 5;");
        Check.due(x, 2, "read");
        Check.due(x, Check.mixed(1, 2, 1, 0, 0, 0, 26, 2, 3, 4, 1, 5, 1, 1), "digest");
        Check.due(x, 1, "of", 0, 5);
        Check.due(x, 2, "read");
        Check.due(x, -3, "undo");
        Check.refused(x, 1, 1, 2);
        Check.due(x, -3, "from", 0);
        Check.due(x, 1, "from", 1);
        Check.due(x, 7, "count", 0);
        Check.due(x, 127, "count", 2);
        Check.due(x, 6, "count", 3);
        Check.due(x, 6, "count", 4);
        Check.due(x, 7, "count", 1);
        x = read("valley 3;", 1);
        Check.due(x, 0, "count", 0);
        Check.due(x, 0, "candle", 0, 0, 1, 0, 0);
        Check.due(x, 1, "read");
        Check.due(x, 0, "count", 0);
        Check.due(x, 0, "count", 2);
    }

    public static void main(String[] args) {
        length();
        textThatIsFull();
        textThatWasCleared();
        readAgain();
        bytes();
        tokens();
        numbersAsTold();
        words();
        candlesThatAreNotThere();
        eachPlace();
        tooEarly();
        replaces();
        Check.end();
    }
}
