/** Promises 1 to 7: a new object, mill, goods, word, type, clear, read. */
public final class MillTest {
    private static final Check CHECK = new Check("MillTest");

    public static void main(String[] args) {
        newObject();
        mill();
        millStartsAnew();
        goods();
        goodsFullBehindBad();
        word();
        type();
        clear();
        readTakesThePlaceOfAll();
        readItems();
        faults();
        faultsLeaveAll();
        CHECK.end();
    }

    private static void newObject() {
        GrindMill x = new GrindMill();
        for (int what = 0; what <= 9; what++) {
            CHECK.due("new count(" + what + ")", x.count(what), 0);
        }
        for (int what = 0; what <= 2; what++) {
            CHECK.due("new status(" + what + ")", x.status(what), 0);
        }
        CHECK.due("new grinds", x.grinds(), GrindMill.NONE);
        CHECK.due("new part(0)", x.part(0), 0);
        CHECK.due("new part(1)", x.part(1), 1);
        CHECK.due("new say(0): THE WORD is 0", x.say(0), 5);
        CHECK.due("new from(0)", x.from(0), GrindMill.NO);
        // H is 60 at first.
        x.goods(0, 9, 0);
        x.grind(0);
        x.hour(60);
        CHECK.due("new H", x.count(2), 60);
        CHECK.due("new H spills", x.count(3), 480);
    }

    private static void mill() {
        GrindMill x = new GrindMill();
        CHECK.due("mill(0)", x.mill(0), 0);
        x.goods(0, 1, 1);
        x.goods(0, 1, 1);
        CHECK.due("mill(200)", x.mill(200), 2);
        CHECK.due("mill(200)", x.mill(200), 0);
        CHECK.due("mill(-1)", x.mill(-1), GrindMill.BAD);
        CHECK.due("mill(201)", x.mill(201), GrindMill.BAD);
        CHECK.due("mill(least)", x.mill(Integer.MIN_VALUE), GrindMill.BAD);
        CHECK.due("mill(most)", x.mill(Integer.MAX_VALUE), GrindMill.BAD);
        CHECK.due("refused", x.status(0), 4);
    }

    private static void millStartsAnew() {
        GrindMill x = busy();
        long above = x.part(0);
        long below = x.part(1);
        CHECK.due("busy mill(60)", x.mill(60), 3);
        for (int what = 0; what <= 9; what++) {
            CHECK.due("count(" + what + ") behind mill", x.count(what), what == 8 ? 4 : 0);
        }
        CHECK.due("grinds behind mill", x.grinds(), -1);
        CHECK.due("THE WORD behind mill", x.say(0), 5);
        CHECK.due("above stays", x.part(0), above);
        CHECK.due("below stays", x.part(1), below);
        CHECK.due("status stays", x.status(0), 1);
        CHECK.due("the image stays", x.from(1), 1);
        CHECK.due("its goods", x.count(0), 3);
        x.mill(7);
        x.goods(4, 2, 9);
        CHECK.due("goods behind mill have none", x.of(0, 3), 0);
        CHECK.due("goods behind mill sold none", x.of(0, 4), 0);
    }

    /** A mill in which everything has been used, with image 1 kept and one call refused. */
    static GrindMill busy() {
        GrindMill x = new GrindMill();
        Check.type(x, "mill");
        x.mill(50);
        x.goods(0, 9, 40);
        x.goods(1, 5, 10);
        x.goods(3, 2, 20);
        x.word(9);
        x.grind(0);
        x.hour(7);
        x.sell(0, 3);
        x.cold(6);
        x.guess(3, 2);
        x.note(1, 4, 5, 6);
        x.thieves(0, 2, 3);
        x.image(1);
        x.mill(-5);
        return x;
    }

    private static void goods() {
        GrindMill x = new GrindMill();
        int[][] wrong = {{-1, 1, 0}, {6, 1, 0}, {0, 0, 0}, {0, 10, 0}, {0, 1, -1}, {0, 1, 41},
            {Integer.MIN_VALUE, 1, 0}, {0, Integer.MAX_VALUE, 0}, {0, 1, Integer.MIN_VALUE}};
        for (int[] w : wrong) {
            CHECK.due("goods(" + w[0] + ", " + w[1] + ", " + w[2] + ")", x.goods(w[0], w[1], w[2]), GrindMill.BAD);
        }
        for (int g = 0; g < 6; g++) {
            CHECK.due("goods " + g, x.goods(g, 9 - g, 40 - g), g);
            CHECK.due("kind", x.of(g, 0), g);
            CHECK.due("rate", x.of(g, 1), 9 - g);
            CHECK.due("price", x.of(g, 2), 40 - g);
        }
        CHECK.due("goods(0, 1, 0): a 7th", x.goods(0, 1, 0), GrindMill.FULL);
        CHECK.due("how many", x.count(0), 6);
    }

    private static void goodsFullBehindBad() {
        GrindMill x = new GrindMill();
        for (int g = 0; g < 6; g++) {
            x.goods(0, 1, 0);
        }
        CHECK.due("goods(6, 1, 0) when full", x.goods(6, 1, 0), GrindMill.BAD);
        CHECK.due("BAD", x.status(0), 1);
        CHECK.due("FULL", x.status(2), 0);
    }

    private static void word() {
        GrindMill x = new GrindMill();
        CHECK.due("word(31)", x.word(31), 1);
        CHECK.due("say(31)", x.say(31), 5);
        CHECK.due("word(-1)", x.word(-1), GrindMill.BAD);
        CHECK.due("word(32)", x.word(32), GrindMill.BAD);
        CHECK.due("THE WORD stays", x.say(0), 0);
        CHECK.due("word(0)", x.word(0), 1);
        CHECK.due("say(0)", x.say(0), 5);
        CHECK.due("a word told is not undone", x.count(7), 3);
    }

    private static void type() {
        GrindMill x = new GrindMill();
        CHECK.due("type(-1)", x.type(-1), GrindMill.BAD);
        CHECK.due("type(128)", x.type(128), GrindMill.BAD);
        for (int i = 1; i <= 150; i++) {
            CHECK.due("type " + i, x.type(i % 128), i);
        }
        CHECK.due("type(0) of 150", x.type(0), GrindMill.FULL);
        CHECK.due("type(128) of 150", x.type(128), GrindMill.BAD);
        CHECK.due("bytes", x.count(8), 150);
    }

    private static void clear() {
        GrindMill x = new GrindMill();
        CHECK.due("clear()", x.clear(), 0);
        Check.type(x, "mill 5;");
        CHECK.due("clear()", x.clear(), 7);
        CHECK.due("bytes", x.count(8), 0);
        CHECK.due("read() of none", x.read(), -10);
        x.type('m');
        CHECK.due("bytes", x.count(8), 1);
    }

    private static void readTakesThePlaceOfAll() {
        GrindMill x = busy();
        long above = x.part(0);
        CHECK.due("read", Check.read(x, "mill 9;"), 1);
        for (int what = 0; what <= 9; what++) {
            CHECK.due("count(" + what + ") behind read", x.count(what), what == 8 ? 7 : 0);
        }
        CHECK.due("grinds", x.grinds(), -1);
        CHECK.due("above stays", x.part(0), above);
        CHECK.due("status stays", x.status(0), 1);
        CHECK.due("THE WORD is 0", x.say(31), 0);
        CHECK.due("the image stays", x.from(1), 1);
        CHECK.due("its hour", x.count(1), 7);
        CHECK.due("its word", x.say(9), 5);
    }

    private static void readItems() {
        GrindMill x = new GrindMill();
        CHECK.due("blanks", Check.read(x, "  mill   07 ;  goods 5 1 00;goods 3 09 40 ; grind 0;grind 1;word 31;word 3;cold 9;cold 05  ; "), 9);
        CHECK.due("goods", x.count(0), 2);
        CHECK.due("the last grind", x.grinds(), 1);
        CHECK.due("the last cold", x.count(9), 5);
        CHECK.due("the last word", x.say(3), 5);
        CHECK.due("rate", x.of(1, 1), 9);
        CHECK.due("price", x.of(1, 2), 40);
        CHECK.due("H", Check.read(x, "mill 07;goods 0 9 1;grind 0;"), 3);
        x.hour(1);
        CHECK.due("H of 07", x.count(2), 7);
        CHECK.due("no blanks where none is needed", Check.read(x, "mill5;goods0 1 2;grind0;cold9;word31;"), 5);
        CHECK.due("two figures", Check.read(x, "mill 99;"), 1);
        CHECK.due("six goods", Check.read(x, sixGoods() + "grind 5;"), 8);
        CHECK.due("what is read is not undone", x.undo(), GrindMill.NO);
    }

    private static String sixGoods() {
        StringBuilder text = new StringBuilder("mill 1;");
        for (int g = 0; g < 6; g++) {
            text.append("goods ").append(g).append(" 1 1;");
        }
        return text.toString();
    }

    private static void fault(String text, int place) {
        GrindMill x = new GrindMill();
        CHECK.due("read of '" + text + "'", Check.read(x, text), -10 - place);
        for (int what = 0; what <= 2; what++) {
            CHECK.due("a fault is no refusal", x.status(what), 0);
        }
    }

    private static void faults() {
        fault("", 0);
        fault("   ", 3);
        fault("mill", 4);
        fault("mill 5", 6);
        fault("mill 5  ", 8);
        fault("mil", 0);
        fault(" mills 5;", 1);
        fault("cold 5;", 0);
        fault("goods 0 1 2;mill 5;", 0);
        fault("5;", 0);
        fault(";", 0);
        fault("mill;", 4);
        fault("mill 100;", 5);
        fault("mill 0000;", 5);
        fault("mill 5 5;", 7);
        fault("mill 5a;", 6);
        fault("mill five;", 5);
        fault("mill 5;;", 7);
        fault("mill 5;7;", 7);
        fault("mill 5; mill 5;", 8);
        fault("mill 5;Cold 5;", 7);
        fault("mill 5;cOld 5;", 8 - 1);
        fault("mill 5\t;", 6);
        fault("mill 5;\n", 7);
        fault("mill -5;", 5);
        fault("mill 5;porridge 5;", 7);
        fault("mill 5;grind 0;", 13);
        fault("mill 5;grind 0;goods 0 1 2;", 13);
        fault("mill 5;goods 0 1 2;grind 1;", 25);
        fault("mill 5;goods 0 1 2;grind;", 24);
        fault("mill 5;goods 6 1 2;", 13);
        fault("mill 5;goods 0 0 2;", 15);
        fault("mill 5;goods 0 10 2;", 15);
        fault("mill 5;goods 0 1 41;", 17);
        fault("mill 5;goods 0 1;", 16);
        fault("mill 5;goods 0 1 2 3;", 19);
        fault("mill 5;goods 012;", 13);
        fault("mill 5;goods 6", 13);
        fault("mill 5;goods 0", 14);
        fault("mill 5;word 32;", 12);
        fault("mill 5;cold 10;", 12);
        fault("mill 5;cold 5", 13);
        fault("mill 5;cold", 11);
        fault("mill 5;co", 7);
        fault(sixGoods() + "goods 9 9 9;", sixGoods().length());
        fault(sixGoods() + " goods", sixGoods().length() + 1);
        fault(sixGoods() + "grind 6;", sixGoods().length() + 6);
    }

    private static void faultsLeaveAll() {
        GrindMill x = busy();
        Check.type(x, "mill 9;goods 0 1 1;grind 0;word 1;cold 3;cold 99;");
        long before = x.digest();
        CHECK.due("read", x.read(), -10 - 46);
        CHECK.due("all stays", x.digest(), before);
        CHECK.due("what may be undone stays", x.undo(), 7);
        CHECK.due("status stays", x.status(0), 1);
        CHECK.due("read once more", x.read(), -10 - 46);
    }
}
