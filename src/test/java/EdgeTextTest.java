import java.util.function.Supplier;

/** The edges of THE TEXT: type, clear, read, and every FAULT that the document names. */
public final class EdgeTextTest {
    private static final Edge EDGE = new Edge("EdgeTextTest");
    private static final Check CHECK = EDGE.check;
    private static final int LONGEST = 150;
    private static final String SIX = "mill 1;goods 0 1 0;goods 1 2 1;goods 2 3 2;goods 3 4 3;goods 4 5 4;goods 5 6 5;";

    public static void main(String[] args) {
        typeTakes0To127();
        typeTakes150();
        typeBadAheadOfFull();
        clearOfNoneAndOfAll();
        typeBehindClear();
        itemsAreEndedEach();
        millIsFirstOfAll();
        millIsOnce();
        millOfTwoFiguresAtMost();
        goodsNumbers();
        goodsOfFewerOrMoreNumbers();
        seventhGoodsAtItsWord();
        grindOnlyWhatIsThere();
        wordNumbers();
        coldNumbers();
        oneOrTwoFiguresAreOneNumber();
        threeFiguresAtTheFirst();
        blanksBetween();
        onlyBlanksAreBlanks();
        wordsThatAreNone();
        bytesThatBeginNone();
        emptyOrTooShort();
        theFirstFaultCounts();
        textOf150();
        readTakesThePlaceOfAll();
        readLeavesNothingToUndo();
        readLeavesImagesTextFractionStatus();
        faultLeavesAllInEveryHouse();
        faultBehindOneThatWasRead();
        CHECK.end();
    }

    private static void fault(String text, int place) {
        EDGE.asked(() -> Houses.busyWith(text), -10 - place, "read");
    }

    private static GrindMill reads(String text, int items) {
        return EDGE.taken(() -> Houses.busyWith(text), items, "read");
    }

    // "A byte (0 .. 127) comes behind THE TEXT: how many it has. BAD; FULL." "THE MILL is told by a TEXT (150 bytes at most)"

    private static GrindMill typed(int bytes) {
        GrindMill x = new GrindMill();
        for (int i = 0; i < bytes; i++) {
            x.type(' ');
        }
        return x;
    }

    private static void typeTakes0To127() {
        EDGE.taken(Houses.EMPTY, 1, "type", 0);
        EDGE.taken(Houses.EMPTY, 1, "type", 127);
        EDGE.badOutside(0, 0, 127, "type", 0);
        for (int c = 0; c <= 127; c++) {
            GrindMill x = new GrindMill();
            x.type(c);
            CHECK.due("byte " + c + " alone, read", x.read(), c == ' ' ? -11 : -10);
        }
    }

    private static void typeTakes150() {
        EDGE.taken(() -> typed(148), 149, "type", 'a');
        EDGE.taken(() -> typed(149), LONGEST, "type", 'a');
        EDGE.full(() -> typed(LONGEST), "type", 'a');
        EDGE.full(Houses.CRAMMED, "type", ';');
        EDGE.full(Houses.CRAMMED, "type", 0);
        EDGE.full(Houses.CRAMMED, "type", 127);
        EDGE.asked(Houses.CRAMMED, LONGEST, "count", 8);
    }

    private static void typeBadAheadOfFull() {
        EDGE.bad(Houses.CRAMMED, "type", -1);
        EDGE.bad(Houses.CRAMMED, "type", 128);
    }

    // "THE TEXT is empty: how many it had."

    private static void clearOfNoneAndOfAll() {
        EDGE.asked(Houses.EMPTY, 0, "clear");
        GrindMill x = EDGE.taken(Houses.CRAMMED, LONGEST, "clear");
        CHECK.due("bytes behind clear", x.count(8), 0);
        CHECK.due("clear again", x.clear(), 0);
    }

    private static void typeBehindClear() {
        GrindMill x = Houses.CRAMMED.get();
        x.clear();
        CHECK.due("the first byte behind clear", x.type('m'), 1);
        Check.type(x, "mill 7;");
        CHECK.due("nothing is left of the longer text", x.read(), 1);
        CHECK.due("goods", x.count(0), 0);
    }

    // "of ITEMS, each ended by ;"

    private static void itemsAreEndedEach() {
        reads("mill 5;", 1);
        reads("mill 5;cold 5;", 2);
        fault("mill 5", 6);
        fault("mill 5;cold 5", 13);
        fault("mill 5 cold 5;", 7);
        fault("mill 5;cold 5 word 5;", 14);
        fault("mill 5;;", 7);
        fault("mill 5; ;cold 5;", 8);
        fault(";", 0);
        fault(";mill 5;", 0);
    }

    // "mill H (once, first of all ..)" "mill again, anything ahead of it"

    private static void millIsFirstOfAll() {
        reads("mill 0;", 1);
        fault("goods 0 1 0;mill 5;", 0);
        fault("grind 0;mill 5;", 0);
        fault("word 5;mill 5;", 0);
        fault("  cold 5;mill 5;", 2);
        fault("5;mill 5;", 0);
        fault("cold", 0);
    }

    private static void millIsOnce() {
        fault("mill 5;mill 5;", 7);
        fault("mill 5;  mill", 9);
        fault("mill 5;goods 0 1 0;mill 5;", 19);
        fault("mill 5 mill 5;", 7);
        fault("mill mill", 5);
    }

    // "mill H (..; of two figures at most)"

    private static void millOfTwoFiguresAtMost() {
        int[] most = {0, 9, 10, 99};
        for (int h : most) {
            GrindMill x = reads("mill " + h + ";goods 0 9 0;grind 0;", 3);
            x.hour(60);
            CHECK.due("H of " + h, x.count(2), h);
        }
        GrindMill x = reads("mill 00;goods 0 9 0;grind 0;", 3);
        x.hour(1);
        CHECK.due("H of 00", x.count(2), 0);
        fault("mill 100;", 5);
        fault("mill 200;", 5);
        fault("mill 000;", 5);
        fault("mill -1;", 5);
        fault("mill;", 4);
    }

    // "goods KIND RATE PRICE": "a number not as told"

    private static void goodsNumbers() {
        GrindMill least = reads("mill 5;goods 0 1 0;", 2);
        CHECK.due("least kind", least.of(0, 0), 0);
        CHECK.due("least rate", least.of(0, 1), 1);
        CHECK.due("least price", least.of(0, 2), 0);
        GrindMill most = reads("mill 5;goods 5 9 40;", 2);
        CHECK.due("most kind", most.of(0, 0), 5);
        CHECK.due("most rate", most.of(0, 1), 9);
        CHECK.due("most price", most.of(0, 2), 40);
        fault("mill 5;goods 6 1 0;", 13);
        fault("mill 5;goods 99 1 0;", 13);
        fault("mill 5;goods 0 0 0;", 15);
        fault("mill 5;goods 0 10 0;", 15);
        fault("mill 5;goods 0 1 41;", 17);
        fault("mill 5;goods 0 1 99;", 17);
    }

    private static void goodsOfFewerOrMoreNumbers() {
        fault("mill 5;goods;", 12);
        fault("mill 5;goods 0;", 14);
        fault("mill 5;goods 0 1;", 16);
        fault("mill 5;goods 0 1 0 0;", 19);
        fault("mill 5;goods 01 1;", 17);
        fault("mill 5;goods 0 1 goods 0 1 0;", 17);
    }

    // "a 7th goods at its word"

    private static void seventhGoodsAtItsWord() {
        GrindMill x = reads(SIX, 7);
        CHECK.due("six goods", x.count(0), 6);
        fault(SIX + "goods 0 1 0;", SIX.length());
        fault(SIX + "goods 9 9 99;", SIX.length());
        fault(SIX + "  goods", SIX.length() + 2);
        reads(SIX + "cold 9;", 8);
    }

    // "grind g", "also GOODS that are not there yet"

    private static void grindOnlyWhatIsThere() {
        fault("mill 5;grind 0;", 13);
        fault("mill 5;grind 0;goods 0 1 0;", 13);
        GrindMill one = reads("mill 5;goods 0 1 0;grind 0;", 3);
        CHECK.due("the only one", one.grinds(), 0);
        fault("mill 5;goods 0 1 0;grind 1;", 25);
        fault("mill 5;goods 0 1 0;grind 1;goods 0 1 0;", 25);
        GrindMill six = reads(SIX + "grind 5;", 8);
        CHECK.due("the last one", six.grinds(), 5);
        fault(SIX + "grind 6;", SIX.length() + 6);
        fault(SIX + "grind;", SIX.length() + 5);
    }

    // "word w; cold c"

    private static void wordNumbers() {
        CHECK.due("word 0", reads("mill 5;word 0;", 2).say(0), 5);
        CHECK.due("word 31", reads("mill 5;word 31;", 2).say(31), 5);
        fault("mill 5;word 32;", 12);
        fault("mill 5;word 99;", 12);
        fault("mill 5;word;", 11);
        fault("mill 5;word 1 1;", 14);
    }

    private static void coldNumbers() {
        CHECK.due("cold 0", reads("mill 5;cold 0;", 2).count(9), 0);
        CHECK.due("cold 9", reads("mill 5;cold 9;", 2).count(9), 9);
        fault("mill 5;cold 10;", 12);
        fault("mill 5;cold 99;", 12);
        fault("mill 5;cold;", 11);
        fault("mill 5;cold 1 1;", 14);
    }

    // "figures (1 or 2 are one number)", "a run of three figures or more (at its first one)"

    private static void oneOrTwoFiguresAreOneNumber() {
        GrindMill x = reads("mill 05;goods 00 09 08;grind 00;word 07;cold 06;", 5);
        CHECK.due("rate 09", x.of(0, 1), 9);
        CHECK.due("price 08", x.of(0, 2), 8);
        CHECK.due("grind 00", x.grinds(), 0);
        CHECK.due("word 07", x.say(7), 5);
        CHECK.due("cold 06", x.count(9), 6);
        fault("mill 5 0;", 7);
    }

    private static void threeFiguresAtTheFirst() {
        fault("mill 005;", 5);
        fault("mill  123456789012345678901234567890;", 6);
        fault("mill 5;goods 000 1 0;", 13);
        fault("mill 5;goods 0 001 0;", 15);
        fault("mill 5;goods 0 1 000;", 17);
        fault("mill 5;goods 0 1 0;grind 000;", 25);
        fault("mill 5;word 001;", 12);
        fault("mill 5;cold 001;", 12);
        fault("mill 5;cold 001", 12);
        fault("mill 4294967296;", 5);
    }

    // "blanks (32) between"

    private static void blanksBetween() {
        reads("mill 5;cold 5;", 2);
        reads("   mill   5   ;   cold   5   ;   ", 2);
        reads("mill5;cold5;", 2);
        reads("mill 5 ;goods0 1 0;", 2);
        fault("mi ll 5;", 0);
        fault("mill 5;col d 5;", 7);
    }

    private static void onlyBlanksAreBlanks() {
        for (int c = 0; c <= 127; c++) {
            String text = "mill 5" + (char) c + ";";
            if (c == ' ') {
                reads(text, 1);
            } else if (c >= '0' && c <= '9') {
                reads(text, 1);
            } else {
                fault(text, c == ';' ? 7 : 6);
            }
        }
    }

    // "a word that is none"

    private static void wordsThatAreNone() {
        fault("mil 5;", 0);
        fault("mills 5;", 0);
        fault("millmill 5;", 0);
        fault("mil", 0);
        fault(" m", 1);
        String[] none = {"good", "goodss", "grin", "grinds", "wor", "words", "col", "colds", "a", "z", "porridge", "wold", "cord"};
        for (String word : none) {
            fault("mill 5;" + word + " 0;", 7);
            fault("mill 5; " + word, 8);
        }
        fault("mill five;", 5);
        fault("mill 5;cold cold;", 12);
    }

    // "a byte that begins none"

    private static void bytesThatBeginNone() {
        for (int c = 0; c <= 127; c++) {
            boolean begins = c >= 'a' && c <= 'z' || c == ' ' || c >= '0' && c <= '9' || c == ';';
            if (!begins) {
                fault((char) c + "mill 5;", 0);
                fault("mill " + (char) c + "5;", 5);
                fault("mill 5;" + (char) c, 7);
                fault("mill 5;cold" + (char) c + "5;", 11);
            }
        }
        fault("Mill 5;", 0);
        fault("mIll 5;", 0);
        fault("mill 5;cold 5{;", 13);
        fault("mill 5;cold 5`;", 13);
    }

    // "the TEXT's length, if it ends too early (an empty one, too)"

    private static void emptyOrTooShort() {
        fault("", 0);
        EDGE.asked(Houses.EMPTY, -10, "read");
        fault(" ", 1);
        fault(" ".repeat(LONGEST), LONGEST);
        String[] early = {"mill", "mill ", "mill 5", "mill 5 ", "mill 5;goods", "mill 5;goods 0", "mill 5;goods 0 ", "mill 5;goods 0 1",
            "mill 5;goods 0 1 0", "mill 5;goods 0 1 0;grind", "mill 5;goods 0 1 0;grind 0", "mill 5;word", "mill 5;word 31",
            "mill 5;cold", "mill 5;cold  ", "mill 5;cold 9"};
        for (String text : early) {
            fault(text, text.length());
        }
    }

    // "the place of the first byte of the first TOKEN that can not stand there"

    private static void theFirstFaultCounts() {
        fault("mill 100;cold 10;", 5);
        fault("mill 5;cold 10;mill 5;", 12);
        fault("mill 5;goods 6 0 41;", 13);
        fault("mill 5;goods 0 0 41;", 15);
        fault("mill 5;cold 10", 12);
        fault("mill 5;word 5;?", 14);
    }

    private static void textOf150() {
        String full = "mill 5;" + " ".repeat(LONGEST - 14) + "cold 8;";
        CHECK.due("as long as may be", full.length(), LONGEST);
        CHECK.due("cold at the end of 150", reads(full, 2).count(9), 8);
        String open = "mill 5;" + " ".repeat(LONGEST - 13) + "cold 8";
        fault(open, LONGEST);
        fault("mill 5;" + " ".repeat(LONGEST - 8) + "?", LONGEST - 1);
        // Items of as few bytes as can be: the most that a text may have.
        reads("mill5;" + "cold0;".repeat(24), 25);
        fault("mill5;" + "cold0;".repeat(23) + "cold 0", LONGEST);
        fault("z".repeat(LONGEST), 0);
        fault("9".repeat(LONGEST), 0);
        fault("mill " + "9".repeat(LONGEST - 5), 5);
    }

    // "A MILL that is read takes the place of all but IMAGES, THE TEXT, THE FRACTION, STATUS (HOUR, all BUSHELS, SOLD, SPILLED, MONEY 0, GUESSES, NOTES none; nothing to undo)"

    private static void readTakesThePlaceOfAll() {
        GrindMill bare = reads("mill 5;", 1);
        CHECK.due("all but what is told is as at first", bare.digest(),
            Check.mixed(0, 0, 0, 0, 0, 0, 0, 0, 7, 0, 5, 0, -1, bare.part(0), bare.part(1)));
        GrindMill told = reads("mill 12;goods 4 5 6;goods 3 2 1;grind 1;word 7;cold 8;", 6);
        CHECK.due("all that is told, and no more", told.digest(),
            Check.mixed(2, 0, 0, 0, 0, 0, 0, 0, 54, 8, 12, 7, 1, 4, 5, 6, 0, 0, 3, 2, 1, 0, 0, told.part(0), told.part(1)));
        GrindMill x = Houses.CRAMMED.get();
        CHECK.due("crammed", x.read(), 15);
        CHECK.due("in the place of a crammed one", x.digest(), Check.mixed(6, 0, 0, 0, 0, 0, 0, 0, LONGEST, 5, 99, 16, 0,
            0, 1, 0, 0, 0, 1, 2, 8, 0, 0, 2, 3, 16, 0, 0, 3, 4, 24, 0, 0, 4, 5, 32, 0, 0, 5, 9, 40, 0, 0, x.part(0), x.part(1)));
    }

    private static void readLeavesNothingToUndo() {
        GrindMill x = reads("mill 5;goods 0 1 0;grind 0;cold 5;", 4);
        CHECK.due("may be undone", x.count(7), 0);
        CHECK.due("undo", x.undo(), GrindMill.NO);
    }

    private static void readLeavesImagesTextFractionStatus() {
        GrindMill x = Houses.busyWith("mill 5;");
        int refused = x.status(0);
        long above = x.part(0);
        long below = x.part(1);
        x.read();
        CHECK.due("above", x.part(0), above);
        CHECK.due("below", x.part(1), below);
        CHECK.due("status", x.status(0), refused);
        CHECK.due("read again", x.read(), 1);
        CHECK.due("bytes", x.clear(), 7);
        CHECK.due("image 0", x.from(0), 1);
        CHECK.due("its goods", x.count(0), 3);
        CHECK.due("image 1", x.from(1), 1);
        CHECK.due("its goods", x.count(0), 3);
    }

    // "-10 less the FAULT: all stays."

    private static void faultLeavesAllInEveryHouse() {
        for (Supplier<GrindMill> house : Houses.ALL) {
            EDGE.asked(() -> {
                GrindMill x = house.get();
                Check.type(x, "mill 77;goods 5 5 5;goods 4 4 4;grind 1;word 30;cold 3;cold 10;");
                return x;
            }, -10 - 60, "read");
        }
    }

    private static void faultBehindOneThatWasRead() {
        EDGE.asked(() -> {
            GrindMill x = Houses.busyWith("mill 9;goods 0 4 3;goods 3 2 1;grind 0;");
            x.read();
            x.hour(1);
            x.sell(0, 2);
            x.cold(5);
            Check.type(x, "mill 77;goods 5 5 5;grind 0;word 30;cold 3;cold 10;");
            return x;
        }, -10 - 48, "read");
        GrindMill x = reads("mill 9;goods 0 4 3;grind 0;", 3);
        x.image(0);
        x.hour(2);
        CHECK.due("read once more", x.read(), 3);
        CHECK.due("the HOUR", x.count(1), 0);
        CHECK.due("bushels", x.count(2), 0);
        x.hour(1);
        CHECK.due("bushels", x.count(2), 4);
    }
}
