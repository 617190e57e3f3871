/** Promises 21 to 24: guess, words, nextGuess, street. */
public final class WordTest {
    private static final Check CHECK = new Check("WordTest");

    public static void main(String[] args) {
        guess();
        words();
        nextGuess();
        street();
        streetCountsSold();
        streetOfMany();
        streetRefused();
        CHECK.end();
    }

    private static void guess() {
        GrindMill x = new GrindMill();
        CHECK.due("guess(-1, 0)", x.guess(-1, 0), GrindMill.BAD);
        CHECK.due("guess(32, 0)", x.guess(32, 0), GrindMill.BAD);
        CHECK.due("guess(0, -1)", x.guess(0, -1), GrindMill.BAD);
        CHECK.due("guess(0, 6)", x.guess(0, 6), GrindMill.BAD);
        for (int i = 1; i <= 6; i++) {
            CHECK.due("guess " + i, x.guess(31, 5), i);
        }
        CHECK.due("guess(31, 5): a 7th", x.guess(31, 5), GrindMill.FULL);
        CHECK.due("guess(31, 6) when full", x.guess(31, 6), GrindMill.BAD);
        CHECK.due("guesses", x.count(5), 6);
        CHECK.due("BAD", x.status(0), 5);
        CHECK.due("FULL", x.status(2), 1);
    }

    private static void words() {
        GrindMill x = new GrindMill();
        CHECK.due("words(0)", x.words(0), 32);
        CHECK.due("words(1)", x.words(1), 0);
        x.guess(0, 1);
        // Four letters set.
        CHECK.due("words(0)", x.words(0), 5);
        CHECK.due("words(1)", x.words(1), 15);
        x.guess(31, 4);
        CHECK.due("words(0): the same again", x.words(0), 5);
        x.guess(1, 0);
        CHECK.due("words(0)", x.words(0), 1);
        CHECK.due("words(1)", x.words(1), 30);
        x.guess(30, 4);
        CHECK.due("words(0)", x.words(0), 0);
        CHECK.due("words(1)", x.words(1), GrindMill.NONE);
        CHECK.due("words(-1)", x.words(-1), GrindMill.BAD);
        CHECK.due("words(2)", x.words(2), GrindMill.BAD);
        CHECK.due("BAD", x.status(0), 2);
    }

    private static void nextGuess() {
        GrindMill x = new GrindMill();
        CHECK.due("nextGuess() of 32", x.nextGuess(), 0);
        x.guess(0, 4);
        // One letter set, of 5; 1 parts them 1 and 4, 3 parts them 2 and 3.
        CHECK.due("nextGuess() of 5", x.nextGuess(), 3);
        x.guess(3, 4);
        CHECK.due("nextGuess() of 1 and 2", x.nextGuess(), 1);
        x.guess(1, 3);
        CHECK.due("nextGuess() of 2: all are like", x.nextGuess(), 0);
        x.guess(1, 4);
        CHECK.due("nextGuess() of none", x.nextGuess(), GrindMill.NONE);
        CHECK.due("it is no refusal", x.status(0) + x.status(1) + x.status(2), 0);
    }

    private static void street() {
        GrindMill x = new GrindMill();
        CHECK.due("street(1, -1) of none", x.street(1, -1), 0);
        CHECK.due("street(1, 0) of none", x.street(1, 0), -5);
        x.goods(0, 5, 1);
        x.goods(0, 5, 1);
        // Alone 5; together the first has 3 of the 5 that fetch, the second 2.
        CHECK.due("street(1, -1)", x.street(1, -1), 2);
        CHECK.due("street(1, 0)", x.street(1, 0), 1);
        CHECK.due("street(1, 1)", x.street(1, 1), 6);
        CHECK.due("street(1, 2)", x.street(1, 2), -5);
        x.mill(1);
        x.goods(0, 3, 1);
        x.goods(0, 2, 1);
        // Alone 3 or 2; together by GOODS 0 the first has 3, the second 2: as much as by GOODS 1.
        CHECK.due("street(1, -1)", x.street(1, -1), 2);
        CHECK.due("street(1, 0)", x.street(1, 0), 0);
        CHECK.due("street(1, 1)", x.street(1, 1), 1);
        CHECK.due("street(1, 2)", x.street(1, 2), -5);
        CHECK.due("it is no refusal", x.status(0) + x.status(1) + x.status(2), 0);
    }

    private static void streetCountsSold() {
        GrindMill x = new GrindMill();
        x.goods(0, 1, 2);
        x.goods(0, 1, 1);
        x.grind(0);
        CHECK.due("street(1, -1)", x.street(1, -1), 1);
        CHECK.due("street(1, 0)", x.street(1, 0), 0);
        x.hour(9);
        x.sell(0, 4);
        // Of GOODS 0 the next fetches 2, the one behind it 1: GOODS 1 are as good for the second.
        CHECK.due("street(1, -1) behind a sale", x.street(1, -1), 2);
        CHECK.due("street(1, 1) behind a sale", x.street(1, 1), 1);
        x.sell(0, 5);
        // One more of GOODS 0 fetches 1, the one behind it nothing: only two of them do not rest.
        CHECK.due("street(1, -1) behind more", x.street(1, -1), 3);
        CHECK.due("street(1, 0)", x.street(1, 0), 1);
        CHECK.due("street(1, 2)", x.street(1, 2), 7);
    }

    private static void streetOfMany() {
        GrindMill x = new GrindMill();
        for (int g = 0; g < 6; g++) {
            x.goods(5, 1, 1);
        }
        CHECK.due("street(9, -1): all rest", x.street(9, -1), 36);
        for (int k = 0; k < 36; k++) {
            CHECK.due("street(9, " + k + ")", x.street(9, k), k);
        }
        CHECK.due("street(9, 36)", x.street(9, 36), -5);
        CHECK.due("street(9, most)", x.street(9, Integer.MAX_VALUE), -5);
    }

    private static void streetRefused() {
        GrindMill x = new GrindMill();
        CHECK.due("street(0, -1)", x.street(0, -1), -10);
        CHECK.due("street(10, -1)", x.street(10, -1), -10);
        CHECK.due("street(1, -2)", x.street(1, -2), -10);
        CHECK.due("street(1, least)", x.street(1, Integer.MIN_VALUE), -10);
        CHECK.due("BAD", x.status(0), 4);
    }
}
