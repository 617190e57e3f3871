import java.util.Arrays;
import java.util.function.Supplier;

/** The edges of promises 21 to 24: guess, words, nextGuess, street. */
public final class EdgeWordTest {
    private static final Edge EDGE = new Edge("EdgeWordTest");
    private static final Check CHECK = EDGE.check;
    private static final int PLAIN = 0, PEACE = 2, MILLS = 3, NOTHING = 5;
    private static final int NONE = GrindMill.NONE;
    private static final int NOT_SO_MANY = -5;

    public static void main(String[] args) {
        guessTakesWords0To31();
        guessTakesAnswers0To5();
        guessOfSix();
        guessBadAheadOfFull();
        guessThatCanNotBe();
        wordsTakes0And1();
        wordsOfNoGuess();
        wordsOfOneAndOfNone();
        wordsByAnswersZeroAndFive();
        nextGuessOfAll();
        nextGuessOfOneAndOfNone();
        nextGuessTheLeastOfLike();
        nextGuessByEveryGuess();
        streetTakes1To9();
        streetTakesPairsFromZero();
        streetOfNoGoods();
        streetOfOneGoods();
        streetNotSoMany();
        streetOfAllPairs();
        streetWhoHasNoneIsPassedOver();
        streetByTurns();
        streetBehindWhatIsSold();
        streetOfHourZeroAtThisCold();
        nothingIsChanged();
        CHECK.end();
    }

    private static Supplier<GrindMill> guessed(int... pairs) {
        return () -> Houses.guessed(pairs);
    }

    // "GUESSES 0 .. 5, as they come: WORD w was answered by a (0 .. 5)." "A GUESS: how many there are. BAD; FULL: 6."

    private static void guessTakesWords0To31() {
        EDGE.taken(Houses.EMPTY, 1, "guess", 0, 3);
        EDGE.taken(Houses.BUSY, 2, "guess", 31, 3);
        EDGE.badOutside(0, 0, 31, "guess", 0, 3);
    }

    private static void guessTakesAnswers0To5() {
        EDGE.taken(Houses.EMPTY, 1, "guess", 9, 0);
        EDGE.taken(Houses.BUSY, 2, "guess", 9, 5);
        EDGE.badOutside(1, 0, 5, "guess", 9, 0);
    }

    private static void guessOfSix() {
        EDGE.taken(guessed(1, 1, 2, 2, 3, 3, 4, 4, 5, 5), 6, "guess", 6, 0);
        EDGE.full(guessed(1, 1, 2, 2, 3, 3, 4, 4, 5, 5, 6, 0), "guess", 0, 0);
        EDGE.full(Houses.CRAMMED, "guess", 31, 5);
        GrindMill x = Houses.CRAMMED.get();
        x.forget(0);
        CHECK.due("there is room again", x.guess(0, 0), 1);
    }

    private static void guessBadAheadOfFull() {
        EDGE.bad(Houses.CRAMMED, "guess", 32, 0);
        EDGE.bad(Houses.CRAMMED, "guess", 0, 6);
        EDGE.bad(Houses.CRAMMED, "guess", -1, -1);
    }

    private static void guessThatCanNotBe() {
        EDGE.taken(guessed(7, 5), 2, "guess", 7, 0);
        EDGE.taken(guessed(7, 5, 7, 0), 3, "guess", 7, 5);
    }

    // "WORDS: how many THE WORD may be by all GUESSES; the least; none." "WORDS: how many (0), the least (1; NONE). BAD."

    private static void wordsTakes0And1() {
        EDGE.asked(guessed(31, 4), 5, "words", 0);
        EDGE.asked(guessed(31, 4), 15, "words", 1);
        EDGE.badOutside(0, 0, 1, "words", 0);
    }

    private static void wordsOfNoGuess() {
        EDGE.asked(Houses.EMPTY, 32, "words", 0);
        EDGE.asked(Houses.EMPTY, 0, "words", 1);
    }

    private static void wordsOfOneAndOfNone() {
        EDGE.asked(guessed(31, 5), 1, "words", 0);
        EDGE.asked(guessed(31, 5), 31, "words", 1);
        EDGE.asked(guessed(31, 5, 31, 4), 0, "words", 0);
        EDGE.asked(guessed(31, 5, 31, 4), NONE, "words", 1);
        EDGE.asked(guessed(31, 0), 0, "words", 1);
    }

    private static void wordsByAnswersZeroAndFive() {
        int[] due = {1, 5, 10, 10, 5, 1};
        for (int a = 0; a <= 5; a++) {
            EDGE.asked(guessed(21, a), due[a], "words", 0);
        }
        for (int w = 0; w < 32; w++) {
            EDGE.asked(guessed(w, 5), w, "words", 1);
            EDGE.asked(guessed(w, 0), 31 - w, "words", 1);
        }
    }

    // "GUESS: the WORD (0 .. 31) by which, of these, the most that would be answered alike are fewest; of like ones the least; none: there is none."

    private static void nextGuessOfAll() {
        EDGE.asked(Houses.EMPTY, 0, "nextGuess");
    }

    private static void nextGuessOfOneAndOfNone() {
        EDGE.asked(guessed(31, 5), 0, "nextGuess");
        EDGE.asked(guessed(31, 5, 31, 4), NONE, "nextGuess");
        EDGE.asked(Houses.CRAMMED, NONE, "nextGuess");
    }

    private static void nextGuessTheLeastOfLike() {
        // 1, 2, 4, 8, 16 are left: 3 is the least that has two of one answer, three of another.
        EDGE.asked(guessed(0, 4), 3, "nextGuess");
        // 1 and 2 are left: 0 and 3 answer alike, 1 does not.
        EDGE.asked(guessed(0, 4, 3, 4), 1, "nextGuess");
        // 15 and 31 are left, which differ by 16 alone: any word tells them.
        EDGE.asked(guessed(15, 5, 31, 4), 0, "nextGuess");
        // 29 and 30 are left, of which 1 is like none of 30's letters.
        EDGE.asked(guessed(31, 4, 28, 4), 1, "nextGuess");
    }

    private static void nextGuessByEveryGuess() {
        for (int w = 0; w < 32; w++) {
            for (int a = 0; a <= 5; a++) {
                nextGuessAsModel(w, a);
                for (int v = 0; v < 32; v += 3) {
                    nextGuessAsModel(w, a, v, 2);
                    nextGuessAsModel(w, a, v, 3);
                }
            }
        }
    }

    private static void nextGuessAsModel(int... pairs) {
        Model y = new Model();
        for (int i = 0; i + 1 < pairs.length; i += 2) {
            y.guess(pairs[i], pairs[i + 1]);
        }
        CHECK.due("nextGuess behind " + Arrays.toString(pairs), Houses.guessed(pairs).nextGuess(), y.nextGuess());
    }

    // "STREET: two mills grind one of GOODS each (or the same) for n (1 .. 9) HOURS" "STREET: how many (k = NONE), the k-th. -5: not so many. BAD: -10."

    private static GrindMill twoAlike() {
        return Houses.holding(60, new int[] {PLAIN, 1, 1}, new int[] {PLAIN, 1, 1});
    }

    private static void streetTakes1To9() {
        EDGE.asked(EdgeWordTest::twoAlike, 4, "street", 1, NONE);
        // Two of one kind fetch 4 of the 5 that fetch anything.
        EDGE.asked(EdgeWordTest::twoAlike, 4, "street", 2, NONE);
        EDGE.asked(EdgeWordTest::twoAlike, 2, "street", 3, NONE);
        EDGE.asked(EdgeWordTest::twoAlike, 2, "street", 9, NONE);
        EDGE.badApartOutside(0, 1, 9, "street", 1, NONE);
        EDGE.badApart(EdgeWordTest::twoAlike, "street", 0, 0);
        EDGE.badApart(EdgeWordTest::twoAlike, "street", 10, 0);
    }

    private static void streetTakesPairsFromZero() {
        for (Supplier<GrindMill> house : Houses.ALL) {
            EDGE.badApart(house, "street", 1, -2);
            EDGE.badApart(house, "street", 9, Edge.LEAST);
            EDGE.badApart(house, "street", 10, -2);
            EDGE.asked(house, NOT_SO_MANY, "street", 1, Edge.MOST);
        }
    }

    private static void streetOfNoGoods() {
        EDGE.asked(Houses.EMPTY, 0, "street", 1, NONE);
        EDGE.asked(Houses.EMPTY, 0, "street", 9, NONE);
        EDGE.asked(Houses.EMPTY, NOT_SO_MANY, "street", 9, 0);
    }

    private static void streetOfOneGoods() {
        for (int kind = 0; kind <= 5; kind++) {
            int of = kind;
            Supplier<GrindMill> one = () -> Houses.holding(60, new int[] {of, 9, 1});
            EDGE.asked(one, 1, "street", 9, NONE);
            EDGE.asked(one, 0, "street", 9, 0);
            EDGE.asked(one, NOT_SO_MANY, "street", 9, 1);
        }
    }

    private static void streetNotSoMany() {
        int[] due = {0, 1, 6, 7, NOT_SO_MANY};
        for (int k = 0; k <= 4; k++) {
            EDGE.asked(EdgeWordTest::twoAlike, due[k], "street", 2, k);
        }
        int[] fewer = {1, 6, NOT_SO_MANY};
        for (int k = 0; k <= 2; k++) {
            EDGE.asked(EdgeWordTest::twoAlike, fewer[k], "street", 3, k);
        }
    }

    private static void streetOfAllPairs() {
        Supplier<GrindMill> peace = () -> {
            GrindMill x = new GrindMill();
            for (int g = 0; g < 6; g++) {
                x.goods(PEACE, g + 1, 40);
            }
            return x;
        };
        EDGE.asked(peace, 36, "street", 9, NONE);
        EDGE.asked(peace, 0, "street", 9, 0);
        EDGE.asked(peace, 6, "street", 9, 6);
        EDGE.asked(peace, 35, "street", 9, 35);
        EDGE.asked(peace, NOT_SO_MANY, "street", 9, 36);
    }

    // "(who has none is passed over)"

    private static void streetWhoHasNoneIsPassedOver() {
        Supplier<GrindMill> house = () -> Houses.holding(60, new int[] {NOTHING, 9, 40}, new int[] {PLAIN, 9, 1});
        // The second of two has two of the five that fetch 1, and by NOTHING none.
        EDGE.asked(house, 1, "street", 1, NONE);
        EDGE.asked(house, 7, "street", 1, 0);
        EDGE.asked(house, 7, "street", 9, 0);
        Supplier<GrindMill> none = () -> Houses.holding(60, new int[] {NOTHING, 9, 40}, new int[] {NOTHING, 9, 40});
        EDGE.asked(none, 4, "street", 9, NONE);
    }

    // "then sell BUSHEL by BUSHEL by turns, the first one first"

    private static void streetByTurns() {
        // Together by GOODS 0 the first has 3 of the 5, the second 2: GOODS 1 with 3 are better for it.
        Supplier<GrindMill> three = () -> Houses.holding(60, new int[] {PLAIN, 5, 1}, new int[] {PLAIN, 3, 1});
        EDGE.asked(three, 2, "street", 1, NONE);
        EDGE.asked(three, 1, "street", 1, 0);
        EDGE.asked(three, 6, "street", 1, 1);
        // With 2 they are no better for it, and worse for the first.
        Supplier<GrindMill> two = () -> Houses.holding(60, new int[] {PLAIN, 5, 1}, new int[] {PLAIN, 2, 1});
        EDGE.asked(two, 2, "street", 1, NONE);
        EDGE.asked(two, 0, "street", 1, 0);
        EDGE.asked(two, 1, "street", 1, 1);
        EDGE.asked(two, NOT_SO_MANY, "street", 1, 2);
    }

    // "each fetching what it does by all SOLD then"

    private static GrindMill soldOfTwo(int n) {
        GrindMill x = twoAlike();
        x.grind(0);
        x.hour(60);
        x.sell(0, n);
        return x;
    }

    private static void streetBehindWhatIsSold() {
        EDGE.asked(() -> soldOfTwo(3), 4, "street", 1, NONE);
        EDGE.asked(() -> soldOfTwo(4), 3, "street", 1, NONE);
        EDGE.asked(() -> soldOfTwo(4), 1, "street", 1, 0);
        EDGE.asked(() -> soldOfTwo(5), 1, "street", 1, NONE);
        EDGE.asked(() -> soldOfTwo(5), 7, "street", 1, 0);
    }

    // "(of HOUR 0, at this COLD)"

    private static void streetOfHourZeroAtThisCold() {
        Supplier<GrindMill> mills = () -> {
            GrindMill x = Houses.holding(60, new int[] {PLAIN, 2, 40}, new int[] {MILLS, 1, 40});
            x.hour(3);
            return x;
        };
        EDGE.asked(mills, 1, "street", 1, NONE);
        EDGE.asked(mills, 0, "street", 1, 0);
        for (int cold = 4; cold <= 5; cold++) {
            int at = cold;
            EDGE.asked(() -> {
                GrindMill x = Houses.holding(60, new int[] {PLAIN, 2, 40}, new int[] {1, 3, 40}, new int[] {1, 1, 40});
                x.cold(at);
                return x;
            }, cold == 4 ? 7 : 0, "street", 1, 0);
        }
    }

    // "(Nothing is changed by these.)"

    private static void nothingIsChanged() {
        for (Supplier<GrindMill> house : Houses.ALL) {
            EDGE.asked(house, house.get().words(0), "words", 0);
            EDGE.asked(house, house.get().words(1), "words", 1);
            EDGE.asked(house, house.get().nextGuess(), "nextGuess");
            EDGE.asked(house, house.get().street(9, 0), "street", 9, 0);
        }
    }
}
