import java.math.BigInteger;
import java.util.function.Supplier;

/** The edges of promises 25 to 30: note, forget, is, look, thieves, mills. */
public final class EdgeNightTest {
    private static final Edge EDGE = new Edge("EdgeNightTest");
    private static final Check CHECK = EDGE.check;
    private static final int PLAIN = 0, SLOW = 1, PEACE = 2, MILLS = 3, SALT = 4, NOTHING = 5;
    private static final int NONE = GrindMill.NONE;
    private static final int ALL_KINDS = 63;

    public static void main(String[] args) {
        noteOfWhatIsThere();
        noteTakesHours0To99();
        noteTakesColds0To9();
        noteTakesBushels0To20();
        noteOfSix();
        noteBadAheadOfFull();
        forgetTakes0And1();
        forgetOfNone();
        forgetOfSix();
        isOfWhatIsThere();
        isTakes0And1();
        isOfNoNotes();
        isOfNoneOfTheKinds();
        isOfHour99AndColdFive();
        isOnlyByItsOwnNotes();
        ratesOfAllAndOfNone();
        ratesByHalf();
        lookOfWhatIsThere();
        lookOfNoKind();
        lookOfOneKind();
        lookOfAllByEveryNote();
        thievesOfWhatIsThere();
        thievesTakes0To9Hours();
        thievesTakes0To10();
        thievesFractionIsLowest();
        thievesFromThisHour();
        thievesChangeOnlyTheFraction();
        millsTakesSeeds();
        millsTakes0To60();
        millsOfGoodsThatAreNotThere();
        millsWrapAround();
        millsSpilledTogether();
        nothingIsChanged();
        CHECK.end();
    }

    private static Supplier<GrindMill> one(int kind, int rate) {
        return () -> Houses.holding(200, new int[] {kind, rate, 1});
    }

    /** One of GOODS and NOTES of it: an HOUR, a COLD and BUSHELS each. */
    private static Supplier<GrindMill> noted(int kind, int rate, int... notes) {
        return () -> {
            GrindMill x = one(kind, rate).get();
            for (int i = 0; i + 2 < notes.length; i += 3) {
                x.note(0, notes[i], notes[i + 1], notes[i + 2]);
            }
            return x;
        };
    }

    // "NOTES 0 .. 5, as they come: GOODS g were ground in HOUR h (0 .. 99) at COLD c: b BUSHELS (0 .. 20)." "A NOTE: how many there are. BAD; FULL: 6."

    private static void noteOfWhatIsThere() {
        EDGE.bad(Houses.EMPTY, "note", 0, 0, 0, 0);
        EDGE.taken(Houses.BUSY, 2, "note", 2, 0, 0, 0);
        EDGE.bad(Houses.BUSY, "note", 3, 0, 0, 0);
        EDGE.badOutside(0, 0, 5, "note", 0, 0, 0, 0);
    }

    private static void noteTakesHours0To99() {
        EDGE.taken(Houses.BUSY, 2, "note", 0, 0, 3, 3);
        EDGE.taken(Houses.BUSY, 2, "note", 0, 99, 3, 3);
        EDGE.badOutside(1, 0, 99, "note", 0, 0, 3, 3);
    }

    private static void noteTakesColds0To9() {
        EDGE.taken(Houses.BUSY, 2, "note", 0, 3, 0, 3);
        EDGE.taken(Houses.BUSY, 2, "note", 0, 3, 9, 3);
        EDGE.badOutside(2, 0, 9, "note", 0, 3, 0, 3);
    }

    private static void noteTakesBushels0To20() {
        EDGE.taken(Houses.BUSY, 2, "note", 0, 3, 3, 0);
        EDGE.taken(Houses.BUSY, 2, "note", 0, 3, 3, 20);
        EDGE.badOutside(3, 0, 20, "note", 0, 3, 3, 0);
    }

    private static void noteOfSix() {
        EDGE.taken(noted(0, 1, 0, 0, 1, 1, 1, 1, 2, 2, 1, 3, 3, 1, 4, 4, 1), 6, "note", 0, 5, 5, 1);
        EDGE.full(noted(0, 1, 0, 0, 1, 1, 1, 1, 2, 2, 1, 3, 3, 1, 4, 4, 1, 5, 5, 1), "note", 0, 6, 6, 1);
        EDGE.full(Houses.CRAMMED, "note", 5, 99, 9, 20);
        GrindMill x = Houses.CRAMMED.get();
        x.forget(1);
        CHECK.due("there is room again", x.note(0, 0, 0, 0), 1);
    }

    private static void noteBadAheadOfFull() {
        EDGE.bad(Houses.CRAMMED, "note", 6, 0, 0, 0);
        EDGE.bad(Houses.CRAMMED, "note", 0, 100, 0, 0);
        EDGE.bad(Houses.CRAMMED, "note", 0, 0, 10, 0);
        EDGE.bad(Houses.CRAMMED, "note", 0, 0, 0, 21);
        EDGE.bad(Houses.CRAMMED, "note", -1, -1, -1, -1);
    }

    // "No GUESSES (0), NOTES (1): how many there were. BAD."

    private static void forgetTakes0And1() {
        GrindMill guesses = EDGE.taken(Houses.CRAMMED, 6, "forget", 0);
        CHECK.due("guesses", guesses.count(5), 0);
        CHECK.due("notes stay", guesses.count(6), 6);
        CHECK.due("all words", guesses.words(0), 32);
        GrindMill notes = EDGE.taken(Houses.CRAMMED, 6, "forget", 1);
        CHECK.due("guesses stay", notes.count(5), 6);
        CHECK.due("notes", notes.count(6), 0);
        CHECK.due("all kinds", notes.is(0, 0), ALL_KINDS);
        EDGE.badOutside(0, 0, 1, "forget", 0);
    }

    private static void forgetOfNone() {
        EDGE.asked(Houses.EMPTY, 0, "forget", 0);
        EDGE.asked(Houses.EMPTY, 0, "forget", 1);
        GrindMill x = Houses.CRAMMED.get();
        x.forget(0);
        CHECK.due("again", x.forget(0), 0);
        x.forget(1);
        CHECK.due("again", x.forget(1), 0);
    }

    private static void forgetOfSix() {
        EDGE.taken(Houses.BUSY, 1, "forget", 0);
        EDGE.taken(Houses.BUSY, 1, "forget", 1);
        GrindMill x = Houses.CRAMMED.get();
        int undone = x.count(7);
        x.forget(0);
        x.forget(1);
        CHECK.due("what may be undone stays", x.count(7), undone);
    }

    // "IS: KINDS (bits) by which all NOTES of them are so." "IS (0; bits), RATES (1). BAD."

    private static void isOfWhatIsThere() {
        EDGE.bad(Houses.EMPTY, "is", 0, 0);
        EDGE.asked(Houses.BUSY, ALL_KINDS, "is", 2, 0);
        EDGE.bad(Houses.BUSY, "is", 3, 0);
        EDGE.badOutside(0, 0, 5, "is", 0, 0);
        EDGE.badOutside(0, 0, 5, "is", 0, 1);
    }

    private static void isTakes0And1() {
        EDGE.asked(noted(PLAIN, 4, 0, 5, 2), 1 << SLOW, "is", 0, 0);
        EDGE.asked(noted(PLAIN, 4, 0, 5, 2), 1, "is", 0, 1);
        EDGE.badOutside(1, 0, 1, "is", 0, 0);
    }

    private static void isOfNoNotes() {
        for (int kind = 0; kind <= 5; kind++) {
            EDGE.asked(one(kind, 1), ALL_KINDS, "is", 0, 0);
            EDGE.asked(one(kind, 9), 9, "is", 0, 1);
        }
    }

    private static void isOfNoneOfTheKinds() {
        EDGE.asked(noted(PLAIN, 9, 0, 0, 20), 0, "is", 0, 0);
        EDGE.asked(noted(PLAIN, 9, 0, 0, 20), 0, "is", 0, 1);
        EDGE.asked(noted(PLAIN, 9, 0, 0, 9, 0, 0, 0), 0, "is", 0, 0);
        EDGE.asked(noted(PLAIN, 9, 0, 0, 0), 1 << NOTHING, "is", 0, 0);
        EDGE.asked(noted(PLAIN, 9, 3, 9, 12), 1 << MILLS, "is", 0, 0);
        EDGE.asked(noted(PLAIN, 9, 3, 9, 13), 0, "is", 0, 0);
    }

    private static void isOfHour99AndColdFive() {
        EDGE.asked(noted(PLAIN, 5, 99, 0, 8), 1 << MILLS, "is", 0, 0);
        EDGE.asked(noted(PLAIN, 5, 96, 0, 5), 0b001111, "is", 0, 0);
        EDGE.asked(noted(PLAIN, 5, 97, 4, 6), 1 << MILLS | 1 << SALT, "is", 0, 0);
        EDGE.asked(noted(PLAIN, 5, 97, 5, 6), 1 << MILLS, "is", 0, 0);
        EDGE.asked(noted(PLAIN, 5, 0, 4, 3), 0, "is", 0, 0);
        EDGE.asked(noted(PLAIN, 5, 0, 5, 3), 1 << SLOW, "is", 0, 0);
        EDGE.asked(noted(PLAIN, 5, 0, 9, 4), 1 << SALT, "is", 0, 0);
        // The COLD of now is not asked for.
        EDGE.asked(() -> {
            GrindMill x = noted(PLAIN, 5, 0, 4, 5).get();
            x.cold(5);
            return x;
        }, 0b001111, "is", 0, 0);
    }

    private static void isOnlyByItsOwnNotes() {
        Supplier<GrindMill> two = () -> {
            GrindMill x = Houses.holding(60, new int[] {PLAIN, 5, 1}, new int[] {PLAIN, 5, 1});
            x.note(0, 0, 0, 20);
            return x;
        };
        EDGE.asked(two, 0, "is", 0, 0);
        EDGE.asked(two, ALL_KINDS, "is", 1, 0);
        EDGE.asked(two, 9, "is", 1, 1);
        EDGE.asked(two, 51, "look", 1);
    }

    // "RATES: how many RATES 1 .. 9 (KIND as it is) by which they are."

    private static void ratesOfAllAndOfNone() {
        EDGE.asked(noted(NOTHING, 5, 0, 0, 0), 9, "is", 0, 1);
        EDGE.asked(noted(NOTHING, 5, 0, 0, 1), 0, "is", 0, 1);
        EDGE.asked(noted(PLAIN, 5, 0, 0, 0), 0, "is", 0, 1);
        EDGE.asked(noted(PLAIN, 5, 0, 0, 1), 1, "is", 0, 1);
        EDGE.asked(noted(PLAIN, 5, 0, 0, 9), 1, "is", 0, 1);
        EDGE.asked(noted(PLAIN, 5, 0, 0, 10), 0, "is", 0, 1);
        EDGE.asked(noted(MILLS, 5, 3, 0, 12), 1, "is", 0, 1);
        EDGE.asked(noted(MILLS, 5, 3, 0, 13), 0, "is", 0, 1);
        EDGE.asked(noted(MILLS, 5, 3, 0, 3), 0, "is", 0, 1);
    }

    private static void ratesByHalf() {
        EDGE.asked(noted(SLOW, 5, 0, 5, 1), 2, "is", 0, 1);
        EDGE.asked(noted(SLOW, 5, 0, 5, 5), 1, "is", 0, 1);
        EDGE.asked(noted(SLOW, 5, 0, 4, 5), 1, "is", 0, 1);
        EDGE.asked(noted(SALT, 5, 0, 5, 1), 0, "is", 0, 1);
        EDGE.asked(noted(SALT, 5, 0, 5, 2), 2, "is", 0, 1);
        EDGE.asked(noted(SALT, 5, 0, 5, 6), 1, "is", 0, 1);
        EDGE.asked(noted(SALT, 5, 0, 5, 7), 0, "is", 0, 1);
    }

    // "LOOK: 10 c and h (c 0 .. 9, h 0 .. 3) by which the most of these KINDS that grind alike are fewest; of like ones the least; none: no KIND." "LOOK. NONE. BAD."

    private static void lookOfWhatIsThere() {
        EDGE.bad(Houses.EMPTY, "look", 0);
        EDGE.asked(Houses.BUSY, 1, "look", 2);
        EDGE.bad(Houses.BUSY, "look", 3);
        EDGE.badOutside(0, 0, 5, "look", 0);
    }

    private static void lookOfNoKind() {
        EDGE.asked(noted(PLAIN, 9, 0, 0, 20), NONE, "look", 0);
        EDGE.asked(noted(NOTHING, 9, 0, 0, 20), NONE, "look", 0);
    }

    private static void lookOfOneKind() {
        EDGE.asked(noted(PLAIN, 9, 0, 0, 0), 0, "look", 0);
        // PLAIN and PEACE grind alike wherever one looks.
        EDGE.asked(noted(PLAIN, 9, 1, 5, 9), 0, "look", 0);
        // With SLOW beside them only the cold tells.
        EDGE.asked(noted(PLAIN, 9, 1, 4, 9), 50, "look", 0);
    }

    private static void lookOfAllByEveryNote() {
        for (int rate = 1; rate <= 9; rate++) {
            for (int h = 0; h <= 3; h++) {
                for (int b = 0; b <= 13; b++) {
                    lookAsModel(rate, h, 4, b);
                    lookAsModel(rate, h, 5, b);
                }
            }
        }
    }

    private static void lookAsModel(int rate, int h, int c, int b) {
        GrindMill x = noted(PLAIN, rate, h, c, b).get();
        Model y = new Model();
        y.goods(PLAIN, rate, 1);
        y.note(0, h, c, b);
        CHECK.due("look at rate " + rate + " behind a note " + h + ", " + c + ", " + b, x.look(0), y.look(0));
    }

    // "THIEVES: by c of 10 (0 .. 10) THE MILL is stolen in each HOUR .. what is ground of GOODS g in n (0 .. 9) HOURS" "THIEVES are THE FRACTION: 1. BAD."

    private static void thievesOfWhatIsThere() {
        EDGE.bad(Houses.EMPTY, "thieves", 0, 0, 0);
        EDGE.taken(Houses.BUSY, 1, "thieves", 2, 0, 0);
        EDGE.bad(Houses.BUSY, "thieves", 3, 0, 0);
        EDGE.badOutside(0, 0, 5, "thieves", 0, 1, 1);
    }

    private static void fraction(Supplier<GrindMill> house, int n, int c, long above, long below) {
        GrindMill x = EDGE.taken(house, 1, "thieves", 0, n, c);
        CHECK.due("above of " + n + " hours by " + c, x.part(0), above);
        CHECK.due("below of " + n + " hours by " + c, x.part(1), below);
    }

    private static void thievesTakes0To9Hours() {
        fraction(one(PLAIN, 9), 0, 5, 0, 1);
        fraction(one(PLAIN, 9), 1, 5, 9, 2);
        // 9 by (1 - 0.9 ^ 9): more than an int above.
        fraction(one(PLAIN, 1), 9, 1, 5513215599L, 1000000000L);
        EDGE.badOutside(1, 0, 9, "thieves", 0, 1, 1);
    }

    private static void thievesTakes0To10() {
        fraction(one(PLAIN, 9), 9, 0, 81, 1);
        fraction(one(PLAIN, 9), 9, 10, 0, 1);
        fraction(one(PLAIN, 9), 1, 9, 9, 10);
        fraction(one(PLAIN, 9), 1, 1, 81, 10);
        fraction(one(PLAIN, 9), 0, 0, 0, 1);
        fraction(one(PLAIN, 9), 0, 10, 0, 1);
        EDGE.badOutside(2, 0, 10, "thieves", 0, 1, 1);
    }

    // "lowest terms, below above 0"

    private static void thievesFractionIsLowest() {
        fraction(one(PLAIN, 8), 1, 5, 4, 1);
        fraction(one(PLAIN, 5), 1, 2, 4, 1);
        fraction(one(PLAIN, 1), 9, 5, 511, 512);
        fraction(one(NOTHING, 9), 9, 1, 0, 1);
        for (int n = 0; n <= 9; n++) {
            for (int c = 0; c <= 10; c++) {
                GrindMill x = one(PLAIN, 6).get();
                x.thieves(0, n, c);
                long above = x.part(0);
                long below = x.part(1);
                CHECK.holds("below is above 0", below > 0);
                CHECK.due("no divisor but 1", BigInteger.valueOf(above).gcd(BigInteger.valueOf(below)).intValue(), 1);
            }
        }
    }

    private static void thievesFromThisHour() {
        fraction(() -> {
            GrindMill x = one(MILLS, 1).get();
            x.hour(3);
            return x;
        }, 2, 5, 9, 4);
        fraction(() -> {
            GrindMill x = one(SLOW, 9).get();
            x.cold(4);
            return x;
        }, 1, 0, 9, 1);
        fraction(() -> {
            GrindMill x = one(SLOW, 9).get();
            x.cold(5);
            return x;
        }, 1, 0, 5, 1);
        // However full the house is.
        fraction(() -> Houses.grinding(0, PLAIN, 9, 1), 9, 0, 81, 1);
    }

    private static void thievesChangeOnlyTheFraction() {
        GrindMill x = Houses.CRAMMED.get();
        x.thieves(5, 9, 0);
        CHECK.due("0 of NOTHING", x.part(0), 0);
        CHECK.due("by 1", x.part(1), 1);
        GrindMill twin = Houses.CRAMMED.get();
        for (int what = 0; what <= 9; what++) {
            CHECK.due("count(" + what + ")", x.count(what), twin.count(what));
        }
        x.thieves(3, 9, 1);
        CHECK.due("the fraction as it was", x.digest(), twin.digest());
    }

    // "MILLS by a SEED (0 .. 999999), n (0 .. 60) HOURS from now" "MILLS. BAD."

    private static void millsTakesSeeds() {
        Supplier<GrindMill> six = EdgeNightTest::six;
        for (int seed : new int[] {0, 999999}) {
            EDGE.asked(six, due(seed, 60), "mills", seed, 60);
            EDGE.asked(six, due(seed, 1), "mills", seed, 1);
        }
        EDGE.badOutside(0, 0, 999999, "mills", 0, 60);
    }

    private static void millsTakes0To60() {
        EDGE.asked(EdgeNightTest::six, 0, "mills", 7, 0);
        EDGE.asked(EdgeNightTest::six, due(7, 60), "mills", 7, 60);
        EDGE.badOutside(1, 0, 60, "mills", 7, 0);
    }

    /** PLAIN GOODS g grind g and 1. */
    private static GrindMill six() {
        GrindMill x = new GrindMill();
        for (int g = 0; g < 6; g++) {
            x.goods(PLAIN, g + 1, 1);
        }
        return x;
    }

    private static int goodsOf(int seed, int hour) {
        BigInteger x = BigInteger.valueOf(seed);
        for (int i = 0; i <= hour; i++) {
            x = x.multiply(BigInteger.valueOf(1103515245)).add(BigInteger.valueOf(12345))
                .mod(BigInteger.valueOf(2147483648L));
        }
        return x.divide(BigInteger.valueOf(65536)).mod(BigInteger.valueOf(8)).intValue();
    }

    private static int due(int seed, int hours) {
        int all = 0;
        for (int i = 0; i < hours; i++) {
            int g = goodsOf(seed, i);
            all += g <= 5 ? g + 1 : 0;
        }
        return all;
    }

    private static int seedOf(int g) {
        int seed = 0;
        while (goodsOf(seed, 0) != g) {
            seed++;
        }
        return seed;
    }

    // "(those that are not there: nothing)"

    private static void millsOfGoodsThatAreNotThere() {
        EDGE.asked(Houses.EMPTY, 0, "mills", 0, 60);
        for (int g = 0; g <= 7; g++) {
            EDGE.asked(EdgeNightTest::six, g <= 5 ? g + 1 : 0, "mills", seedOf(g), 1);
            EDGE.asked(one(PLAIN, 9), g == 0 ? 9 : 0, "mills", seedOf(g), 1);
        }
    }

    // "by 2147483648 what is left over; X by 65536 (cut), by 8 left over"

    private static void millsWrapAround() {
        for (int seed : new int[] {0, 1, 2, 65535, 65536, 999998, 999999}) {
            for (int n = 0; n <= 60; n += 12) {
                CHECK.due("mills(" + seed + ", " + n + ")", six().mills(seed, n), due(seed, n));
            }
        }
        // The HOUR goes on in HOURS of other GOODS and of none: what MILLS grind in HOURS 3, 4, ..
        GrindMill x = one(MILLS, 1).get();
        x.hour(3);
        int all = 0;
        for (int n = 1; n <= 60; n++) {
            all += goodsOf(5, n - 1) == 0 ? 1 + (2 + n) % 4 : 0;
            CHECK.due("mills(5, " + n + ") of MILLS", x.mills(5, n), all);
        }
    }

    // "BUSHELS of all in THE HOUSE and SPILLED together then"

    private static void millsSpilledTogether() {
        Supplier<GrindMill> full = () -> {
            GrindMill x = Houses.grinding(5, PLAIN, 9, 1);
            x.hour(2);
            return x;
        };
        EDGE.asked(full, 18, "mills", 0, 0);
        EDGE.asked(full, 27, "mills", seedOf(0), 1);
        EDGE.asked(full, 18, "mills", seedOf(1), 1);
        EDGE.asked(() -> {
            GrindMill x = full.get();
            x.sell(0, 5);
            return x;
        }, 13, "mills", 0, 0);
    }

    // "(Nothing is changed by these.)"

    private static void nothingIsChanged() {
        for (int g = 0; g <= 5; g++) {
            EDGE.asked(Houses.CRAMMED, Houses.CRAMMED.get().is(g, 0), "is", g, 0);
            EDGE.asked(Houses.CRAMMED, Houses.CRAMMED.get().is(g, 1), "is", g, 1);
            EDGE.asked(Houses.CRAMMED, Houses.CRAMMED.get().look(g), "look", g);
        }
        EDGE.asked(Houses.CRAMMED, Houses.CRAMMED.get().mills(77, 60), "mills", 77, 60);
    }
}
