import java.math.BigInteger;
import java.util.ArrayList;
import java.util.List;
import java.util.function.Supplier;

/** The edges of promises 31 to 36 (part, image, from, status, count, digest) and of what is refused, by which reason. */
public final class EdgeStateTest {
    private static final Edge EDGE = new Edge("EdgeStateTest");
    private static final Check CHECK = EDGE.check;
    private static final int NONE = GrindMill.NONE;

    public static void main(String[] args) {
        fractionIsZeroByOneAtFirst();
        partTakes0And1();
        partMoreThanAnInt();
        imageTakes0And1();
        fromTakes0And1();
        fromOfNoneKept();
        fromBadAheadOfNo();
        imageAnewTakesThePlace();
        imagesKeepAll();
        imagesKeepEightThatMayBeUndone();
        imagesKeepThatNoneMayBeUndone();
        imagesKeepNoTextFractionStatus();
        imagesKeepNoImages();
        statusTakes0To2();
        statusOfNone();
        statusCountsEachByItsReason();
        statusCountsOneForSeveralWrongNumbers();
        whatFindsNothingIsNotRefused();
        countTakes0To9();
        countOfNoneAndOfMost();
        digestWrapsAround();
        digestOfGoodsGuessesNotesThatAreThere();
        CHECK.end();
    }

    // "THE FRACTION is 0 by 1 at first" "THE FRACTION: above (0), below (1). BAD."

    private static void fractionIsZeroByOneAtFirst() {
        EDGE.asked(Houses.EMPTY, 0, "part", 0);
        EDGE.asked(Houses.EMPTY, 1, "part", 1);
    }

    private static void partTakes0And1() {
        EDGE.asked(Houses.BUSY, 1071, "part", 0);
        EDGE.asked(Houses.BUSY, 100, "part", 1);
        EDGE.badOutside(0, 0, 1, "part", 0);
    }

    private static void partMoreThanAnInt() {
        Supplier<GrindMill> house = () -> {
            GrindMill x = Houses.grinding(4, 8, 1);
            x.thieves(0, 9, 1);
            return x;
        };
        EDGE.asked(house, 9 * 5513215599L, "part", 0);
        EDGE.asked(house, 1000000000L, "part", 1);
        long h = Check.mixed(1, 0, 0, 0, 0, 0, 0, 1, 0, 0, 200, 0, 0, 4, 8, 1, 0, 0, 9 * 5513215599L, 1000000000L);
        CHECK.due("digest of a long", house.get().digest(), h);
    }

    // "IMAGES 0, 1" "An IMAGE is kept: 1. BAD." "It goes on from an IMAGE: 1. BAD; NO: none was kept."

    private static void imageTakes0And1() {
        for (Supplier<GrindMill> house : Houses.ALL) {
            CHECK.due("from(0)", EDGE.taken(house, 1, "image", 0).from(0), 1);
            CHECK.due("from(1)", EDGE.taken(house, 1, "image", 1).from(1), 1);
        }
        EDGE.badOutside(0, 0, 1, "image", 0);
    }

    private static void fromTakes0And1() {
        EDGE.taken(Houses.BUSY, 1, "from", 0);
        EDGE.taken(Houses.BUSY, 1, "from", 1);
        EDGE.badOutside(0, 0, 1, "from", 0);
    }

    private static GrindMill kept(int i) {
        GrindMill x = new GrindMill();
        x.image(i);
        x.hour(1);
        return x;
    }

    private static void fromOfNoneKept() {
        EDGE.no(Houses.EMPTY, "from", 0);
        EDGE.no(Houses.EMPTY, "from", 1);
        EDGE.taken(() -> kept(0), 1, "from", 0);
        EDGE.no(() -> kept(0), "from", 1);
        EDGE.no(() -> kept(1), "from", 0);
        EDGE.taken(() -> kept(1), 1, "from", 1);
        // One that was refused keeps none.
        EDGE.no(() -> {
            GrindMill x = new GrindMill();
            x.image(2);
            x.image(-1);
            return x;
        }, "from", 0);
    }

    private static void fromBadAheadOfNo() {
        EDGE.bad(Houses.EMPTY, "from", -1);
        EDGE.bad(Houses.EMPTY, "from", 2);
    }

    private static void imageAnewTakesThePlace() {
        GrindMill x = Houses.CRAMMED.get();
        x.mill(3);
        x.image(0);
        CHECK.due("from(1)", x.from(1), 1);
        CHECK.due("the other is as it was", x.count(0), 6);
        CHECK.due("from(0)", x.from(0), 1);
        CHECK.due("the new one", x.count(0), 0);
        CHECK.due("from(0) again", x.from(0), 1);
    }

    private static void imagesKeepAll() {
        for (Supplier<GrindMill> house : Houses.ALL) {
            for (int i = 0; i <= 1; i++) {
                GrindMill x = house.get();
                long before = x.digest();
                x.image(i);
                x.mill(7);
                x.goods(5, 5, 5);
                x.grind(0);
                x.hour(3);
                x.word(1);
                for (int k = 0; k < 6; k++) {
                    x.guess(1, 1);
                    x.note(0, 1, 1, 1);
                }
                x.from(i);
                CHECK.due("all is as it was", x.digest(), before);
                x.hour(9);
                x.forget(0);
                x.forget(1);
                x.from(i);
                CHECK.due("going on left the image as it was", x.digest(), before);
            }
        }
    }

    // "what may be undone they keep; it goes on from one"

    private static List<Long> undoing(GrindMill x) {
        List<Long> seen = new ArrayList<>();
        for (int i = 0; i < 9; i++) {
            seen.add((long) x.undo());
            seen.add(x.digest());
        }
        return seen;
    }

    private static void imagesKeepEightThatMayBeUndone() {
        GrindMill x = Houses.CRAMMED.get();
        x.image(0);
        x.mill(9);
        for (int i = 0; i < 9; i++) {
            x.hour(60);
        }
        x.from(0);
        CHECK.due("eight", x.count(7), 8);
        List<Long> due = undoing(Houses.CRAMMED.get());
        CHECK.holds("each as it was", undoing(x).equals(due));
        x.from(0);
        CHECK.holds("and once more", undoing(x).equals(due));
    }

    private static void imagesKeepThatNoneMayBeUndone() {
        GrindMill x = new GrindMill();
        x.image(0);
        x.hour(1);
        x.hour(1);
        x.from(0);
        CHECK.due("none", x.count(7), 0);
        CHECK.due("undo", x.undo(), GrindMill.NO);
        x.hour(1);
        CHECK.due("one", x.count(7), 1);
        CHECK.due("going on is not undone", x.undo(), 0);
    }

    // "IMAGES 0, 1 keep all but them, THE TEXT, THE FRACTION and STATUS"

    private static void imagesKeepNoTextFractionStatus() {
        GrindMill x = Houses.BUSY.get();
        x.image(0);
        Check.type(x, "mill 1;");
        x.thieves(0, 0, 0);
        x.hour(0);
        x.undo();
        int bad = x.status(0);
        x.from(0);
        CHECK.due("the text of now", x.count(8), 7);
        CHECK.due("the fraction of now", x.part(0), 0);
        CHECK.due("by", x.part(1), 1);
        CHECK.due("status of now", x.status(0), bad);
        CHECK.due("read", x.read(), 1);
    }

    private static void imagesKeepNoImages() {
        GrindMill x = new GrindMill();
        x.image(0);
        x.hour(1);
        x.image(1);
        x.from(0);
        CHECK.due("image 1 is there, though image 0 was kept ahead of it", x.from(1), 1);
        CHECK.due("the HOUR", x.count(1), 1);
    }

    // "STATUS: BAD (0), NO (1), FULL (2). -1: another what (counts as BAD)."

    private static void statusTakes0To2() {
        for (Supplier<GrindMill> house : Houses.ALL) {
            for (int wrong : new int[] {-1, 3, Edge.LEAST, Edge.MOST}) {
                EDGE.leavesAll(house, 0, -1, "status", wrong);
            }
        }
    }

    private static void statusOfNone() {
        for (int what = 0; what <= 2; what++) {
            EDGE.asked(Houses.EMPTY, 0, "status", what);
        }
    }

    private static void statusCountsEachByItsReason() {
        GrindMill x = Houses.CRAMMED.get();
        int calls = 3;
        for (int i = 0; i < calls; i++) {
            x.goods(0, 1, 0);
            x.guess(0, 0);
            x.note(0, 0, 0, 0);
            x.type('a');
            x.sell(5, 1);
            x.sell(5, 200);
            x.grind(6);
            x.just(0, 0);
            x.best(13, 0);
            x.street(0, 0);
            x.part(2);
            x.count(10);
            x.status(3);
        }
        CHECK.due("BAD", x.status(0), 7 * calls);
        CHECK.due("NO", x.status(1), 2 * calls);
        CHECK.due("FULL", x.status(2), 4 * calls);
    }

    private static void statusCountsOneForSeveralWrongNumbers() {
        EDGE.bad(Houses.EMPTY, "goods", 6, 0, 41);
        EDGE.bad(Houses.EMPTY, "sell", -1, 0);
        EDGE.bad(Houses.EMPTY, "of", -1, 7);
        EDGE.bad(Houses.EMPTY, "then", 61, 2);
        EDGE.badApart(Houses.EMPTY, "just", 61, 0);
        EDGE.badApart(Houses.EMPTY, "best", 13, 0);
        EDGE.bad(Houses.EMPTY, "ship", 0, 301);
        EDGE.bad(Houses.EMPTY, "guess", 32, 6);
        EDGE.badApart(Houses.EMPTY, "street", 10, -2);
        EDGE.bad(Houses.EMPTY, "note", 0, 100, 10, 21);
        EDGE.bad(Houses.EMPTY, "is", 0, 2);
        EDGE.bad(Houses.EMPTY, "thieves", 0, 10, 11);
        EDGE.bad(Houses.EMPTY, "mills", 1000000, 61);
    }

    // "(each answer told so below is such a one)": others are none.

    private static void whatFindsNothingIsNotRefused() {
        EDGE.asked(Houses.EMPTY, NONE, "grinds");
        EDGE.asked(Houses.EMPTY, NONE, "full");
        EDGE.asked(Houses.EMPTY, NONE, "just", 1, NONE);
        EDGE.asked(() -> Houses.grinding(5, 1, 1), NONE, "ship", 0, 0);
        EDGE.asked(() -> Houses.guessed(0, 0, 0, 1), NONE, "words", 1);
        EDGE.asked(() -> Houses.guessed(0, 0, 0, 1), NONE, "nextGuess");
        EDGE.asked(Houses.EMPTY, -5, "street", 1, 0);
        EDGE.asked(Houses.EMPTY, -10, "read");
        EDGE.taken(() -> Houses.holding(1, new int[] {0, 1, 1}), NONE, "grind", 0);
        EDGE.asked(() -> {
            GrindMill x = Houses.holding(1, new int[] {0, 1, 1});
            x.note(0, 0, 0, 20);
            return x;
        }, NONE, "look", 0);
    }

    // "How many: 0 GOODS, .. 9 COLD. BAD."

    private static void countTakes0To9() {
        EDGE.asked(Houses.BUSY, 3, "count", 0);
        EDGE.asked(Houses.BUSY, 6, "count", 9);
        EDGE.badOutside(0, 0, 9, "count", 0);
    }

    private static void countOfNoneAndOfMost() {
        // 54, 48, 42, 47, 36 and 0 were ground into 200; 7 sold for 271 and 21 ground; 9 sold for 329 and 240 ground.
        int[] most = {6, 99, 200, 272, 600, 6, 6, 8, 150, 7};
        for (int what = 0; what <= 9; what++) {
            EDGE.asked(Houses.EMPTY, 0, "count", what);
            EDGE.asked(Houses.CRAMMED, most[what], "count", what);
        }
    }

    // "h = 1231; then h = 31 h + v for each v"

    private static void digestWrapsAround() {
        GrindMill x = Houses.CRAMMED.get();
        List<Long> values = new ArrayList<>();
        for (int what = 0; what <= 9; what++) {
            values.add((long) x.count(what));
        }
        values.addAll(List.of(200L, 21L, 5L));
        for (int g = 0; g < 6; g++) {
            for (int what = 0; what <= 4; what++) {
                values.add((long) x.of(g, what));
            }
        }
        for (long g = 0; g < 6; g++) {
            values.addAll(List.of(5 * g, g));
        }
        for (long g = 0; g < 6; g++) {
            values.addAll(List.of(g, 90 + g, g, 10 + g));
        }
        values.addAll(List.of(x.part(0), x.part(1)));
        BigInteger h = BigInteger.valueOf(1231);
        for (long v : values) {
            h = h.multiply(BigInteger.valueOf(31)).add(BigInteger.valueOf(v));
        }
        CHECK.holds("it is far more than a long", h.bitLength() > 300);
        CHECK.due("digest", x.digest(), h.longValue());
    }

    private static void digestOfGoodsGuessesNotesThatAreThere() {
        // What had been there ahead of it is not told any more.
        GrindMill x = Houses.CRAMMED.get();
        x.mill(60);
        x.clear();
        x.goods(0, 1, 0);
        x.thieves(0, 0, 0);
        x.guess(31, 5);
        x.note(0, 99, 9, 20);
        CHECK.due("digest", x.digest(), Check.mixed(1, 0, 0, 0, 0, 1, 1, 0, 0, 0, 60, 0, -1, 0, 1, 0, 0, 0, 31, 5, 0, 99, 9, 20, 0, 1));
    }
}
