/** The edges in 'What it is' and in 'Terms', up to THE WORD: a test for each sentence that names one. */
public final class EdgeTermsTest {
    private static final Edge EDGE = new Edge("EdgeTermsTest");
    private static final Check CHECK = EDGE.check;
    private static final int CALLS = 512;
    private static final int PLAIN = 0, SLOW = 1, PEACE = 2, MILLS = 3, SALT = 4, NOTHING = 5;

    public static void main(String[] args) {
        the512thCallOfHours();
        the512thCallOfRefusals();
        the512thCallOfImages();
        goods0To5();
        noneLiesOrIsSoldAtFirst();
        houseHolds60AtFirst();
        houseHolds0();
        houseHolds200();
        nothingIsGroundAtFirst();
        hourZeroAtFirst();
        coldZeroAtFirst();
        nothingSpilledNoMoneyAtFirst();
        plainLosesOneByFive();
        plainFetchesZeroAtLeast();
        plainOfPriceZero();
        plainGrindsItsRate();
        slowFromColdFiveOn();
        slowHalfIsCutUp();
        slowFetchesAsPlain();
        peaceFetchesZero();
        peaceGrindsAsPlain();
        millsBeginAgainAtFour();
        millsFetchAsPlain();
        saltIsOneMoreThanSlow();
        saltFetchesHalfCut();
        nothingGrindsZero();
        nothingFetchesOne();
        justFullAndOneMore();
        allGoodsFillTheHouse();
        fullHouseSpillsAll();
        saleMakesRoom();
        hourIsOneMore();
        sellingBushelByBushel();
        answersZeroToFive();
        onlyFiveStops();
        wordIsZeroAtFirst();
        CHECK.end();
    }

    // "An object is used for at most 512 calls after it has been made"

    private static GrindMill usedFor(int calls) {
        GrindMill x = new GrindMill();
        x.goods(MILLS, 9, 40);
        x.grind(0);
        for (int i = 2; i < calls; i++) {
            x.hour(60);
        }
        return x;
    }

    private static void the512thCallOfHours() {
        int hours = 60 * (CALLS - 3);
        int ground = 9 * hours + 6 * (hours / 4);
        CHECK.due("512th: count(1)", usedFor(CALLS - 1).count(1), hours);
        CHECK.due("512th: count(2)", usedFor(CALLS - 1).count(2), 60);
        CHECK.due("512th: count(3)", usedFor(CALLS - 1).count(3), ground - 60);
        CHECK.due("512th: hour(60)", usedFor(CALLS - 1).hour(60), 630);
        CHECK.due("512th: undo()", usedFor(CALLS - 1).undo(), hours - 60);
        CHECK.due("512th: of(0, 5)", usedFor(CALLS - 1).of(0, 5), 9);
        CHECK.due("512th: then(60, 1)", usedFor(CALLS - 1).then(60, 1), ground + 570);
        CHECK.due("512th: mills(0, 0)", usedFor(CALLS - 1).mills(0, 0), ground);
        CHECK.due("512th: digest()", usedFor(CALLS - 1).digest(),
            Check.mixed(1, hours, 60, ground - 60, 0, 0, 0, 8, 0, 0, 60, 0, 0, MILLS, 9, 40, 60, 0, 0, 1));
    }

    private static void the512thCallOfRefusals() {
        String[] names = {"guess", "undo", "guess"};
        int[][] numbers = {{0, 6}, {}, {0, 5}};
        for (int what = 0; what < 3; what++) {
            GrindMill x = Houses.guessed(0, 0, 0, 0, 0, 0, 0, 0, 0, 0, 0, 0);
            for (int i = 6; i < CALLS - 1; i++) {
                Edge.call(x, names[what], numbers[what]);
            }
            CHECK.due("512th: status(" + what + ")", x.status(what), CALLS - 7);
        }
    }

    private static void the512thCallOfImages() {
        GrindMill x = new GrindMill();
        for (int i = 0; i < CALLS - 3; i++) {
            x.image(i % 2);
        }
        x.goods(PLAIN, 1, 1);
        CHECK.due("511th: from(0)", x.from(0), 1);
        CHECK.due("512th: count(0)", x.count(0), 0);
    }

    // "GOODS 0 .. 5, as they come: .. of each as many BUSHELS lie in the house, as many are SOLD (0 at first)"

    private static void goods0To5() {
        GrindMill x = new GrindMill();
        for (int g = 0; g <= 5; g++) {
            CHECK.due("goods " + g + " come as number", x.goods(5 - g, g + 1, 8 * g), g);
            CHECK.due("kind of " + g, x.of(g, 0), 5 - g);
            CHECK.due("rate of " + g, x.of(g, 1), g + 1);
            CHECK.due("price of " + g, x.of(g, 2), 8 * g);
        }
        CHECK.due("a 7th", x.goods(0, 1, 0), GrindMill.FULL);
        CHECK.due("six", x.count(0), 6);
    }

    private static void noneLiesOrIsSoldAtFirst() {
        // Their places have been used by other GOODS ahead of them.
        GrindMill x = Houses.CRAMMED.get();
        x.sell(0, 1);
        x.mill(200);
        for (int g = 0; g < 6; g++) {
            x.goods(g, 9, 40);
            CHECK.due("bushels of new goods " + g, x.of(g, 3), 0);
            CHECK.due("sold of new goods " + g, x.of(g, 4), 0);
        }
    }

    // "THE HOUSE HOLDS H (0 .. 200; 60 at first) BUSHELS of all"

    private static void lie(GrindMill x, int bushels, int spilled) {
        CHECK.due("in the house", x.count(2), bushels);
        CHECK.due("spilled", x.count(3), spilled);
    }

    private static void houseHolds60AtFirst() {
        GrindMill x = new GrindMill();
        x.goods(PLAIN, 1, 1);
        x.grind(0);
        x.hour(60);
        lie(x, 60, 0);
        x.hour(1);
        lie(x, 60, 1);
    }

    private static void houseHolds0() {
        GrindMill x = Houses.grinding(0, PLAIN, 1, 1);
        lie(x, 0, 0);
        CHECK.due("ground all the same", x.hour(1), 1);
        lie(x, 0, 1);
    }

    private static void houseHolds200() {
        GrindMill x = Houses.grinding(200, PLAIN, 5, 1);
        x.hour(40);
        lie(x, 200, 0);
        x.hour(1);
        lie(x, 200, 5);
    }

    // "THE MILL grinds one of GOODS, or nothing (at first). HOURS have numbers, 0 at first. COLD (.. 0 at first). SPILLED, MONEY (0 at first)"

    private static void nothingIsGroundAtFirst() {
        EDGE.asked(Houses.EMPTY, GrindMill.NONE, "grinds");
        GrindMill x = Houses.holding(60, new int[] {PLAIN, 9, 9});
        CHECK.due("goods that come are not ground of themselves", x.hour(60), 0);
        lie(x, 0, 0);
    }

    private static void hourZeroAtFirst() {
        EDGE.asked(Houses.EMPTY, 0, "count", 1);
    }

    private static void coldZeroAtFirst() {
        EDGE.asked(Houses.EMPTY, 0, "count", 9);
        EDGE.taken(Houses.EMPTY, 0, "cold", 9);
    }

    private static void nothingSpilledNoMoneyAtFirst() {
        EDGE.asked(Houses.EMPTY, 0, "count", 3);
        EDGE.asked(Houses.EMPTY, 0, "count", 4);
    }

    // "0 PLAIN: RATE; PRICE less n by 5 (cut), 0 at least."

    /** What one fetches when n are sold. */
    private static int fetches(int kind, int price, int n) {
        GrindMill x = Houses.grinding(kind, 9, price);
        for (int left = n; left > 0; left -= 200) {
            x.hour(60);
            x.sell(0, Math.min(200, left));
        }
        CHECK.due("sold", x.of(0, 4), n);
        return x.of(0, 6);
    }

    private static int grinds(int kind, int rate, int hour, int cold) {
        GrindMill x = Houses.grinding(kind, rate, 1);
        for (int i = 0; i < hour; i++) {
            x.hour(1);
        }
        x.cold(cold);
        int told = x.of(0, 5);
        CHECK.due("what comes is what was told", x.hour(1), told);
        return told;
    }

    private static void plainLosesOneByFive() {
        CHECK.due("none sold", fetches(PLAIN, 7, 0), 7);
        CHECK.due("4 sold", fetches(PLAIN, 7, 4), 7);
        CHECK.due("5 sold", fetches(PLAIN, 7, 5), 6);
        CHECK.due("9 sold", fetches(PLAIN, 7, 9), 6);
        CHECK.due("10 sold", fetches(PLAIN, 7, 10), 5);
    }

    private static void plainFetchesZeroAtLeast() {
        CHECK.due("one less than all of it", fetches(PLAIN, 2, 9), 1);
        CHECK.due("all of it", fetches(PLAIN, 2, 10), 0);
        CHECK.due("no less by five more", fetches(PLAIN, 2, 15), 0);
        CHECK.due("no less by many more", fetches(PLAIN, 2, 600), 0);
        CHECK.due("the most price, last bushel", fetches(PLAIN, 40, 199), 1);
        CHECK.due("the most price, all of it", fetches(PLAIN, 40, 200), 0);
        CHECK.due("the most price, five more", fetches(PLAIN, 40, 205), 0);
    }

    private static void plainOfPriceZero() {
        CHECK.due("price 0", fetches(PLAIN, 0, 0), 0);
        CHECK.due("price 0 and 5 sold", fetches(PLAIN, 0, 5), 0);
    }

    private static void plainGrindsItsRate() {
        for (int cold = 0; cold <= 9; cold++) {
            CHECK.due("rate 1 at cold " + cold, grinds(PLAIN, 1, 3, cold), 1);
            CHECK.due("rate 9 at cold " + cold, grinds(PLAIN, 9, 3, cold), 9);
        }
    }

    // "1 SLOW (under PLAIN): as PLAIN, half (cut up) at COLD of 5 or more; as PLAIN."

    private static void slowFromColdFiveOn() {
        int[] due = {8, 8, 8, 8, 8, 4, 4, 4, 4, 4};
        for (int cold = 0; cold <= 9; cold++) {
            CHECK.due("slow of 8 at cold " + cold, grinds(SLOW, 8, 3, cold), due[cold]);
        }
    }

    private static void slowHalfIsCutUp() {
        int[] due = {0, 1, 1, 2, 2, 3, 3, 4, 4, 5};
        for (int rate = 1; rate <= 9; rate++) {
            CHECK.due("half of " + rate, grinds(SLOW, rate, 0, 5), due[rate]);
        }
    }

    private static void slowFetchesAsPlain() {
        CHECK.due("slow, 4 sold", fetches(SLOW, 1, 4), 1);
        CHECK.due("slow, 5 sold", fetches(SLOW, 1, 5), 0);
        CHECK.due("slow, 10 sold", fetches(SLOW, 1, 10), 0);
    }

    // "2 PEACE (under PLAIN): as PLAIN; 0."

    private static void peaceFetchesZero() {
        CHECK.due("peace of 40", fetches(PEACE, 40, 0), 0);
        CHECK.due("peace of 0", fetches(PEACE, 0, 0), 0);
        CHECK.due("peace, 205 sold", fetches(PEACE, 40, 205), 0);
        GrindMill x = Houses.grinding(PEACE, 9, 40);
        x.hour(1);
        CHECK.due("peace is sold for 0", x.sell(0, 9), 0);
        CHECK.due("peace is sold", x.of(0, 4), 9);
    }

    private static void peaceGrindsAsPlain() {
        CHECK.due("peace, warm", grinds(PEACE, 7, 3, 0), 7);
        CHECK.due("peace, cold", grinds(PEACE, 7, 3, 9), 7);
    }

    // "3 MILLS (under PLAIN): PLAIN and h by 4 left over; as PLAIN."

    private static void millsBeginAgainAtFour() {
        for (int hour = 0; hour <= 9; hour++) {
            CHECK.due("mills in hour " + hour, grinds(MILLS, 9, hour, 5), 9 + new int[] {0, 1, 2, 3, 0, 1, 2, 3, 0, 1}[hour]);
        }
    }

    private static void millsFetchAsPlain() {
        CHECK.due("mills, 4 sold", fetches(MILLS, 1, 4), 1);
        CHECK.due("mills, 5 sold", fetches(MILLS, 1, 5), 0);
        CHECK.due("mills, 10 sold", fetches(MILLS, 1, 10), 0);
    }

    // "4 SALT (under SLOW): 1 more than SLOW; half (cut) of SLOW."

    private static void saltIsOneMoreThanSlow() {
        CHECK.due("salt of 9 at cold 4", grinds(SALT, 9, 3, 4), 10);
        CHECK.due("salt of 9 at cold 5", grinds(SALT, 9, 3, 5), 6);
        CHECK.due("salt of 8 at cold 5", grinds(SALT, 8, 3, 5), 5);
        CHECK.due("salt of 1 at cold 5", grinds(SALT, 1, 0, 5), 2);
        CHECK.due("salt of 1 at cold 0", grinds(SALT, 1, 0, 0), 2);
    }

    private static void saltFetchesHalfCut() {
        int[] due = {0, 0, 1, 1, 2};
        for (int price = 0; price < due.length; price++) {
            CHECK.due("salt of " + price, fetches(SALT, price, 0), due[price]);
        }
        CHECK.due("salt of 40", fetches(SALT, 40, 0), 20);
        // It is SLOW's price that falls by 1, of which half is taken then.
        CHECK.due("salt of 4, 5 sold", fetches(SALT, 4, 5), 1);
        CHECK.due("salt of 4, 10 sold", fetches(SALT, 4, 10), 1);
        CHECK.due("salt of 4, 14 sold", fetches(SALT, 4, 14), 1);
        CHECK.due("salt of 4, 15 sold", fetches(SALT, 4, 15), 0);
        CHECK.due("salt of 4, 30 sold", fetches(SALT, 4, 30), 0);
    }

    // "5 NOTHING (under PEACE): 0; 1 more than PEACE."

    private static void nothingGrindsZero() {
        for (int hour = 0; hour <= 4; hour++) {
            CHECK.due("nothing, warm", grinds(NOTHING, 9, hour, 0), 0);
            CHECK.due("nothing, cold", grinds(NOTHING, 1, hour, 9), 0);
        }
        GrindMill x = Houses.grinding(0, NOTHING, 9, 1);
        CHECK.due("nothing in 60 hours", x.hour(60), 0);
        lie(x, 0, 0);
    }

    private static void nothingFetchesOne() {
        CHECK.due("nothing of 0", fetches(NOTHING, 0, 0), 1);
        CHECK.due("nothing of 40", fetches(NOTHING, 40, 0), 1);
        EDGE.no(() -> Houses.grinding(NOTHING, 9, 40), "sell", 0, 1);
    }

    // "what is ground comes to its BUSHELS, as long as all in THE HOUSE are H or fewer; the others are SPILLED"

    private static void justFullAndOneMore() {
        GrindMill just = Houses.grinding(9, PLAIN, 9, 1);
        CHECK.due("9 into 9", just.hour(1), 9);
        lie(just, 9, 0);
        GrindMill more = Houses.grinding(8, PLAIN, 9, 1);
        CHECK.due("9 into 8", more.hour(1), 9);
        lie(more, 8, 1);
        GrindMill fewer = Houses.grinding(10, PLAIN, 9, 1);
        CHECK.due("9 into 10", fewer.hour(1), 9);
        lie(fewer, 9, 0);
        CHECK.due("9 into the one that is left", fewer.hour(1), 9);
        lie(fewer, 10, 8);
    }

    private static void allGoodsFillTheHouse() {
        GrindMill x = Houses.holding(10, new int[] {PLAIN, 6, 1}, new int[] {PLAIN, 5, 1});
        x.grind(0);
        x.hour(1);
        x.grind(1);
        CHECK.due("5 into 4", x.hour(1), 5);
        CHECK.due("of the first", x.of(0, 3), 6);
        CHECK.due("of the second", x.of(1, 3), 4);
        lie(x, 10, 1);
    }

    private static void fullHouseSpillsAll() {
        GrindMill x = Houses.grinding(1, PLAIN, 1, 1);
        x.hour(1);
        lie(x, 1, 0);
        CHECK.due("into a full house", x.hour(60), 60);
        lie(x, 1, 60);
    }

    private static void saleMakesRoom() {
        GrindMill x = Houses.grinding(3, PLAIN, 3, 1);
        x.hour(2);
        lie(x, 3, 3);
        x.sell(0, 1);
        x.hour(1);
        lie(x, 3, 5);
    }

    // "The HOUR is one more."

    private static void hourIsOneMore() {
        GrindMill x = new GrindMill();
        x.hour(1);
        CHECK.due("the HOUR", x.count(1), 1);
        x.hour(60);
        CHECK.due("the HOUR", x.count(1), 61);
    }

    // "SELLING: BUSHEL by BUSHEL, each fetches what it does then."

    private static void sellingBushelByBushel() {
        GrindMill x = Houses.grinding(PLAIN, 9, 2);
        x.hour(2);
        CHECK.due("five at the first price", x.sell(0, 5), 10);
        CHECK.due("one at the next", x.sell(0, 1), 1);
        CHECK.due("over the last price into nothing", x.sell(0, 5), 4);
        CHECK.due("nothing more", x.sell(0, 7), 0);
        CHECK.due("money", x.count(4), 15);
        GrindMill atOnce = Houses.grinding(PLAIN, 9, 2);
        atOnce.hour(2);
        CHECK.due("all at once", atOnce.sell(0, 18), 15);
    }

    // "THE WORD: 0 .. 31, of 5 letters (bits). .. how many letters are like THE WORD's (0 .. 5); 5: THE MILL stops. (THE WORD is 0, but as told.)"

    private static void answersZeroToFive() {
        for (int w = 0; w < 32; w++) {
            GrindMill x = new GrindMill();
            x.word(w);
            for (int said = 0; said < 32; said++) {
                CHECK.due("word " + w + ", said " + said, x.say(said), 5 - Integer.bitCount(w ^ said));
            }
        }
    }

    private static void onlyFiveStops() {
        for (int said = 0; said < 32; said++) {
            GrindMill x = Houses.grinding(PLAIN, 1, 1);
            x.word(10);
            x.say(said);
            CHECK.due("it grinds behind " + said, x.grinds(), said == 10 ? GrindMill.NONE : 0);
            CHECK.due("an hour behind " + said, x.hour(1), said == 10 ? 0 : 1);
        }
        GrindMill still = new GrindMill();
        CHECK.due("the word to a mill that is still", still.say(0), 5);
        CHECK.due("it is still", still.grinds(), GrindMill.NONE);
    }

    private static void wordIsZeroAtFirst() {
        EDGE.taken(Houses.EMPTY, 5, "say", 0);
        EDGE.taken(Houses.EMPTY, 0, "say", 31);
        EDGE.taken(() -> Houses.holding(0), 5, "say", 0);
    }
}
