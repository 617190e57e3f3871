/** The edges of promises 1 to 4: a new object, mill, goods, word. */
public final class EdgeMillTest {
    private static final Edge EDGE = new Edge("EdgeMillTest");
    private static final Check CHECK = EDGE.check;

    public static void main(String[] args) {
        newObjectHasNothing();
        newObjectRefusesWhatNeedsGoods();
        millTakes0To200();
        millMakesAllAsAtFirst();
        millLeavesImagesTextFractionStatus();
        goodsTakeTheirKinds();
        goodsTakeTheirRates();
        goodsTakeTheirPrices();
        goodsOfSix();
        goodsBadAheadOfFull();
        wordTakes0To31();
        wordChangesOnlyTheWord();
        CHECK.end();
    }

    // "As told; no GOODS."

    private static void newObjectHasNothing() {
        GrindMill x = new GrindMill();
        CHECK.due("digest of a new one", x.digest(), Check.mixed(0, 0, 0, 0, 0, 0, 0, 0, 0, 0, 60, 0, -1, 0, 1));
        for (int what = 0; what < 3; what++) {
            EDGE.asked(Houses.EMPTY, 0, "status", what);
        }
        EDGE.no(Houses.EMPTY, "undo");
        EDGE.no(Houses.EMPTY, "from", 0);
        EDGE.no(Houses.EMPTY, "from", 1);
    }

    private static void newObjectRefusesWhatNeedsGoods() {
        EDGE.badApart(Houses.EMPTY, "grind", 0);
        EDGE.bad(Houses.EMPTY, "sell", 0, 1);
        EDGE.bad(Houses.EMPTY, "of", 0, 0);
        EDGE.badApart(Houses.EMPTY, "just", 1, 0);
        EDGE.badApart(Houses.EMPTY, "best", 0, 0);
        EDGE.bad(Houses.EMPTY, "ship", 0, 0);
        EDGE.bad(Houses.EMPTY, "note", 0, 0, 0, 0);
        EDGE.bad(Houses.EMPTY, "is", 0, 0);
        EDGE.bad(Houses.EMPTY, "look", 0);
        EDGE.bad(Houses.EMPTY, "thieves", 0, 0, 0);
    }

    // "H, all else as at first (but for IMAGES, THE TEXT, THE FRACTION, STATUS): how many GOODS there were. BAD."

    private static void millTakes0To200() {
        EDGE.taken(Houses.EMPTY, 0, "mill", 0);
        EDGE.taken(Houses.EMPTY, 0, "mill", 200);
        EDGE.taken(Houses.BUSY, 3, "mill", 0);
        EDGE.taken(Houses.CRAMMED, 6, "mill", 200);
        EDGE.badOutside(0, 0, 200, "mill", 0);
    }

    private static void millMakesAllAsAtFirst() {
        for (int h : new int[] {0, 200}) {
            GrindMill x = Houses.CRAMMED.get();
            x.mill(h);
            CHECK.due("all is as at first", x.digest(),
                Check.mixed(0, 0, 0, 0, 0, 0, 0, 0, 150, 0, h, 0, -1, x.part(0), x.part(1)));
            CHECK.due("nothing to undo", x.undo(), GrindMill.NO);
            CHECK.due("words", x.words(0), 32);
            CHECK.due("the first goods", x.goods(5, 1, 0), 0);
            CHECK.due("no notes of them", x.is(0, 0), 63);
        }
    }

    private static void millLeavesImagesTextFractionStatus() {
        GrindMill x = Houses.BUSY.get();
        long above = x.part(0);
        long below = x.part(1);
        int refused = x.status(0);
        x.mill(0);
        CHECK.due("above", x.part(0), above);
        CHECK.due("below", x.part(1), below);
        CHECK.due("status", x.status(0), refused);
        CHECK.due("image 0", x.from(0), 1);
        CHECK.due("image 1", x.from(1), 1);
        CHECK.due("the text", x.read(), 5);
    }

    // "a KIND, a RATE (1 .. 9), a PRICE (0 .. 40)" "GOODS: their number. BAD; FULL: 6."

    private static void goodsTakeTheirKinds() {
        CHECK.due("least kind", EDGE.taken(Houses.EMPTY, 0, "goods", 0, 5, 20).of(0, 0), 0);
        CHECK.due("most kind", EDGE.taken(Houses.EMPTY, 0, "goods", 5, 5, 20).of(0, 0), 5);
        EDGE.badOutside(0, 0, 5, "goods", 0, 5, 20);
    }

    private static void goodsTakeTheirRates() {
        CHECK.due("least rate", EDGE.taken(Houses.BUSY, 3, "goods", 1, 1, 20).of(3, 1), 1);
        CHECK.due("most rate", EDGE.taken(Houses.BUSY, 3, "goods", 1, 9, 20).of(3, 1), 9);
        EDGE.badOutside(1, 1, 9, "goods", 1, 5, 20);
    }

    private static void goodsTakeTheirPrices() {
        CHECK.due("least price", EDGE.taken(Houses.BUSY, 3, "goods", 4, 5, 0).of(3, 2), 0);
        CHECK.due("most price", EDGE.taken(Houses.BUSY, 3, "goods", 4, 5, 40).of(3, 2), 40);
        EDGE.badOutside(2, 0, 40, "goods", 4, 5, 20);
    }

    private static GrindMill five() {
        GrindMill x = new GrindMill();
        for (int g = 0; g < 5; g++) {
            x.goods(0, 1, 0);
        }
        return x;
    }

    private static GrindMill six() {
        GrindMill x = five();
        x.goods(0, 1, 0);
        x.hour(1);
        return x;
    }

    private static void goodsOfSix() {
        EDGE.taken(EdgeMillTest::five, 5, "goods", 0, 1, 0);
        EDGE.full(EdgeMillTest::six, "goods", 0, 1, 0);
        EDGE.full(Houses.CRAMMED, "goods", 5, 9, 40);
        GrindMill x = six();
        x.mill(60);
        CHECK.due("there is room again behind mill", x.goods(0, 1, 0), 0);
    }

    // "Refused .. the first of: BAD ..; NO ..; FULL"

    private static void goodsBadAheadOfFull() {
        EDGE.bad(EdgeMillTest::six, "goods", 6, 1, 0);
        EDGE.bad(EdgeMillTest::six, "goods", 0, 0, 0);
        EDGE.bad(EdgeMillTest::six, "goods", 0, 1, 41);
        // Several wrong numbers are one refused call.
        EDGE.bad(EdgeMillTest::six, "goods", -1, 10, -1);
    }

    // "THE WORD: 0 .. 31" "THE WORD is told: 1. BAD."

    private static void wordTakes0To31() {
        CHECK.due("least word", EDGE.taken(Houses.BUSY, 1, "word", 0).say(0), 5);
        CHECK.due("most word", EDGE.taken(Houses.BUSY, 1, "word", 31).say(31), 5);
        EDGE.badOutside(0, 0, 31, "word", 0);
    }

    private static void wordChangesOnlyTheWord() {
        // What may be undone is told in the digest, too.
        GrindMill x = Houses.grinding(0, 2, 3);
        x.word(31);
        CHECK.due("only THE WORD", x.digest(), Check.mixed(1, 0, 0, 0, 0, 0, 0, 1, 0, 0, 200, 31, 0, 0, 2, 3, 0, 0, 0, 1));
        x.undo();
        CHECK.due("a word told is not undone", x.say(31), 5);
    }
}
