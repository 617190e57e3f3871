import java.util.function.Supplier;

/** The edges of promises 16 to 20: then, full, just, best, ship. */
public final class EdgeComesTest {
    private static final Edge EDGE = new Edge("EdgeComesTest");
    private static final Check CHECK = EDGE.check;
    private static final int PLAIN = 0, SLOW = 1, PEACE = 2, MILLS = 3, SALT = 4, NOTHING = 5;
    private static final int NONE = GrindMill.NONE;

    public static void main(String[] args) {
        thenTakes0To60();
        thenOfHouseAndSpilled();
        thenJustFullAndOneMore();
        thenOfNothingGround();
        thenHasWhatIsSpilledNow();
        thenFromThisHourAtThisCold();
        fullNow();
        fullIn60AndIn61();
        fullOfNothing();
        fullThoughSomeIsSpilled();
        justTakes1To60();
        justOfWhatIsThere();
        justNoneWhateverIs();
        justTheFewest();
        justTheFirstWay();
        justOfHourZeroAtThisCold();
        justSpillsNothing();
        bestTakes0To12();
        bestOfWhatIsThere();
        bestOfNoGoodsOrNoHours();
        bestTheFirstWay();
        bestDownToZero();
        bestBehindWhatIsSold();
        bestOfHourZeroAtThisCold();
        shipTakes0To300();
        shipOfWhatIsThere();
        shipSinksByMoreThan();
        shipIn60AndNone();
        shipFromThisHourNoneAboard();
        nothingIsKeptOfWhatWasAsked();
        nothingIsChanged();
        CHECK.end();
    }

    private static Supplier<GrindMill> grinding(int h, int kind, int rate) {
        return () -> Houses.grinding(h, kind, rate, 1);
    }

    private static Supplier<GrindMill> holding(int h, int[]... goods) {
        return () -> Houses.holding(h, goods);
    }

    private static int[] plain(int rate, int price) {
        return new int[] {PLAIN, rate, price};
    }

    /** A house behind so many calls of hour(1) and this COLD. */
    private static Supplier<GrindMill> later(Supplier<GrindMill> house, int hours, int cold) {
        return () -> {
            GrindMill x = house.get();
            for (int i = 0; i < hours; i++) {
                x.hour(1);
            }
            x.cold(cold);
            return x;
        };
    }

    // "THEN: behind m HOURS (0 .. 60) as it grinds: BUSHELS of all in THE HOUSE; SPILLED." "in THE HOUSE (0), SPILLED (1). BAD."

    private static void thenTakes0To60() {
        EDGE.asked(grinding(200, PLAIN, 3), 0, "then", 0, 0);
        EDGE.asked(grinding(200, PLAIN, 3), 3, "then", 1, 0);
        EDGE.asked(grinding(200, PLAIN, 3), 180, "then", 60, 0);
        EDGE.badOutside(0, 0, 60, "then", 0, 0);
    }

    private static void thenOfHouseAndSpilled() {
        EDGE.asked(grinding(100, PLAIN, 3), 100, "then", 60, 0);
        EDGE.asked(grinding(100, PLAIN, 3), 80, "then", 60, 1);
        EDGE.badOutside(1, 0, 1, "then", 60, 0);
    }

    private static void thenJustFullAndOneMore() {
        EDGE.asked(grinding(9, PLAIN, 9), 9, "then", 1, 0);
        EDGE.asked(grinding(9, PLAIN, 9), 0, "then", 1, 1);
        EDGE.asked(grinding(8, PLAIN, 9), 8, "then", 1, 0);
        EDGE.asked(grinding(8, PLAIN, 9), 1, "then", 1, 1);
        EDGE.asked(grinding(0, PLAIN, 9), 0, "then", 60, 0);
        EDGE.asked(grinding(0, PLAIN, 9), 540, "then", 60, 1);
    }

    private static void thenOfNothingGround() {
        EDGE.asked(Houses.EMPTY, 0, "then", 60, 0);
        EDGE.asked(Houses.EMPTY, 0, "then", 60, 1);
        EDGE.asked(holding(60, plain(9, 1)), 0, "then", 60, 0);
        EDGE.asked(grinding(60, NOTHING, 9), 0, "then", 60, 0);
        EDGE.asked(() -> {
            GrindMill x = Houses.grinding(60, PLAIN, 9, 1);
            x.hour(3);
            x.say(0);
            return x;
        }, 27, "then", 60, 0);
    }

    private static void thenHasWhatIsSpilledNow() {
        EDGE.asked(later(grinding(5, PLAIN, 9), 1, 0), 5, "then", 0, 0);
        EDGE.asked(later(grinding(5, PLAIN, 9), 1, 0), 4, "then", 0, 1);
        EDGE.asked(later(grinding(5, PLAIN, 9), 1, 0), 13, "then", 1, 1);
    }

    private static void thenFromThisHourAtThisCold() {
        EDGE.asked(later(grinding(200, MILLS, 1), 3, 0), 6 + 4, "then", 1, 0);
        EDGE.asked(later(grinding(200, MILLS, 1), 3, 0), 6 + 4 + 1, "then", 2, 0);
        EDGE.asked(later(grinding(200, SLOW, 9), 1, 4), 9 + 9, "then", 1, 0);
        EDGE.asked(later(grinding(200, SLOW, 9), 1, 5), 9 + 5, "then", 1, 0);
    }

    // "FULL: in how many HOURS (0 .. 60) THE HOUSE has H BUSHELS; none." "FULL. NONE."

    private static void fullNow() {
        EDGE.asked(holding(0), 0, "full");
        EDGE.asked(grinding(0, PLAIN, 9), 0, "full");
        EDGE.asked(later(grinding(9, PLAIN, 9), 1, 0), 0, "full");
        EDGE.asked(later(grinding(9, PLAIN, 9), 2, 0), 0, "full");
        EDGE.asked(later(grinding(10, PLAIN, 9), 1, 0), 1, "full");
    }

    private static void fullIn60AndIn61() {
        EDGE.asked(grinding(59, PLAIN, 1), 59, "full");
        EDGE.asked(grinding(60, PLAIN, 1), 60, "full");
        EDGE.asked(grinding(61, PLAIN, 1), NONE, "full");
        EDGE.asked(later(grinding(61, PLAIN, 1), 1, 0), 60, "full");
        EDGE.asked(grinding(200, PLAIN, 3), NONE, "full");
        EDGE.asked(grinding(180, PLAIN, 3), 60, "full");
    }

    private static void fullOfNothing() {
        EDGE.asked(Houses.EMPTY, NONE, "full");
        EDGE.asked(holding(1, plain(9, 1)), NONE, "full");
        EDGE.asked(grinding(1, NOTHING, 9), NONE, "full");
        EDGE.asked(grinding(0, NOTHING, 9), 0, "full");
    }

    private static void fullThoughSomeIsSpilled() {
        EDGE.asked(grinding(10, PLAIN, 9), 2, "full");
        EDGE.asked(grinding(1, PLAIN, 9), 1, "full");
        // 30 lie there; 42 come in four HOURS, of which HOUR 3 is the first: 198 in 16, 210 in 17.
        EDGE.asked(later(grinding(200, MILLS, 9), 3, 0), 17, "full");
        EDGE.asked(later(grinding(3, MILLS, 1), 1, 0), 1, "full");
        EDGE.asked(later(grinding(4, MILLS, 1), 1, 0), 2, "full");
    }

    // "JUST n (1 .. 60) BUSHELS" "JUST n: HOURS (i = NONE), those of GOODS i. NONE: none (whatever i is). BAD: -10: no such GOODS, too."

    private static void justTakes1To60() {
        EDGE.asked(holding(60, plain(1, 1)), 1, "just", 1, NONE);
        EDGE.asked(holding(60, plain(1, 1)), 60, "just", 60, NONE);
        EDGE.asked(holding(60, plain(1, 1)), 60, "just", 60, 0);
        EDGE.badApartOutside(0, 1, 60, "just", 1, NONE);
        EDGE.badApart(holding(60, plain(1, 1)), "just", 0, 0);
        EDGE.badApart(holding(60, plain(1, 1)), "just", 61, 0);
    }

    private static void justOfWhatIsThere() {
        EDGE.badApart(Houses.EMPTY, "just", 1, 0);
        EDGE.asked(Houses.BUSY, 0, "just", 9, 2);
        EDGE.badApart(Houses.BUSY, "just", 9, 3);
        EDGE.asked(Houses.CRAMMED, 0, "just", 9, 5);
        EDGE.badApartOutside(1, NONE, 5, "just", 9, 0);
    }

    private static void justNoneWhateverIs() {
        EDGE.asked(Houses.EMPTY, NONE, "just", 1, NONE);
        EDGE.asked(Houses.EMPTY, NONE, "just", 60, NONE);
        Supplier<GrindMill> sevens = holding(60, plain(7, 1), new int[] {NOTHING, 1, 1});
        for (int i = NONE; i <= 1; i++) {
            EDGE.asked(sevens, NONE, "just", 6, i);
            EDGE.asked(sevens, NONE, "just", 8, i);
            EDGE.asked(sevens, NONE, "just", 60, i);
        }
        EDGE.asked(sevens, 1, "just", 7, NONE);
        EDGE.asked(sevens, 8, "just", 56, NONE);
        // GOODS that are not there are BAD, though there is none.
        EDGE.badApart(sevens, "just", 8, 2);
        EDGE.badApart(sevens, "just", 8, -2);
        EDGE.asked(holding(60, new int[] {NOTHING, 9, 9}), NONE, "just", 1, 0);
    }

    private static void justTheFewest() {
        Supplier<GrindMill> house = holding(60, plain(1, 1), plain(5, 1), plain(6, 1), plain(9, 1));
        EDGE.asked(house, 2, "just", 11, NONE);
        EDGE.asked(house, 1, "just", 11, 1);
        EDGE.asked(house, 1, "just", 11, 2);
        EDGE.asked(house, 2, "just", 10, NONE);
        EDGE.asked(house, 7, "just", 60, NONE);
        EDGE.asked(house, 7, "just", 59, NONE);
    }

    private static void justTheFirstWay() {
        Supplier<GrindMill> alike = holding(60, plain(4, 1), plain(4, 1));
        EDGE.asked(alike, 15, "just", 60, 0);
        EDGE.asked(alike, 0, "just", 60, 1);
        // 12 in two HOURS: 3 and 9, or 6 and 6; by the most of GOODS 0 that is 3 and 9.
        Supplier<GrindMill> ways = holding(60, plain(3, 1), plain(6, 1), plain(9, 1));
        int[] due = {2, 1, 0, 1};
        for (int i = NONE; i <= 2; i++) {
            EDGE.asked(ways, due[i + 1], "just", 12, i);
        }
        // 12 likewise, but GOODS 0 in no such way: most of GOODS 1 then.
        Supplier<GrindMill> later = holding(60, plain(1, 1), plain(6, 1), plain(3, 1), plain(9, 1));
        int[] then = {2, 0, 2, 0, 0};
        for (int i = NONE; i <= 3; i++) {
            EDGE.asked(later, then[i + 1], "just", 12, i);
        }
    }

    private static void justOfHourZeroAtThisCold() {
        EDGE.asked(later(holding(60, new int[] {MILLS, 5, 1}), 3, 9), 12, "just", 60, NONE);
        EDGE.asked(later(holding(60, new int[] {SLOW, 9, 1}), 0, 4), 5, "just", 45, NONE);
        EDGE.asked(later(holding(60, new int[] {SLOW, 9, 1}), 0, 5), 9, "just", 45, NONE);
        EDGE.asked(later(holding(60, new int[] {SALT, 9, 1}), 0, 4), 6, "just", 60, NONE);
        EDGE.asked(later(holding(60, new int[] {SALT, 9, 1}), 0, 5), 10, "just", 60, NONE);
    }

    private static void justSpillsNothing() {
        EDGE.asked(holding(0, plain(6, 1)), 10, "just", 60, 0);
        EDGE.asked(later(grinding(9, PLAIN, 9), 9, 0), 6, "just", 54, 0);
    }

    // "BEST in n (0 .. 12) HOURS" "BEST in n: MONEY (i = NONE), HOURS of GOODS i. BAD: -10: no such GOODS, too."

    private static void bestTakes0To12() {
        EDGE.asked(holding(60, plain(5, 40)), 0, "best", 0, NONE);
        EDGE.asked(holding(60, plain(5, 40)), 200, "best", 1, NONE);
        EDGE.asked(holding(60, plain(5, 40)), 5 * (12 * 40 - 66), "best", 12, NONE);
        EDGE.asked(holding(60, plain(5, 40)), 12, "best", 12, 0);
        EDGE.badApartOutside(0, 0, 12, "best", 0, NONE);
    }

    private static void bestOfWhatIsThere() {
        EDGE.badApart(Houses.EMPTY, "best", 0, 0);
        EDGE.asked(Houses.BUSY, 0, "best", 1, 2);
        EDGE.badApart(Houses.BUSY, "best", 1, 3);
        EDGE.asked(Houses.CRAMMED, 0, "best", 1, 5);
        EDGE.badApartOutside(1, NONE, 5, "best", 1, 0);
    }

    private static void bestOfNoGoodsOrNoHours() {
        EDGE.asked(Houses.EMPTY, 0, "best", 0, NONE);
        EDGE.asked(Houses.EMPTY, 0, "best", 12, NONE);
        for (int i = NONE; i <= 5; i++) {
            EDGE.asked(Houses.CRAMMED, 0, "best", 0, i);
        }
    }

    private static void bestTheFirstWay() {
        Supplier<GrindMill> alike = holding(60, plain(1, 9), plain(1, 9));
        // Ten fetch 9 each, five of each; the two HOURS more fetch 8, by whichever.
        EDGE.asked(alike, 106, "best", 12, NONE);
        EDGE.asked(alike, 7, "best", 12, 0);
        EDGE.asked(alike, 5, "best", 12, 1);
        EDGE.asked(alike, 5, "best", 5, 0);
        EDGE.asked(alike, 5, "best", 6, 0);
        EDGE.asked(alike, 1, "best", 6, 1);
        // Five at 9; of those at 8 five of GOODS 0 ahead of two of GOODS 1.
        Supplier<GrindMill> falling = holding(60, plain(1, 9), plain(1, 8));
        EDGE.asked(falling, 101, "best", 12, NONE);
        EDGE.asked(falling, 10, "best", 12, 0);
        EDGE.asked(falling, 2, "best", 12, 1);
        Supplier<GrindMill> rising = holding(60, plain(1, 1), plain(1, 9));
        EDGE.asked(rising, 9, "best", 1, NONE);
        EDGE.asked(rising, 0, "best", 1, 0);
        EDGE.asked(rising, 1, "best", 1, 1);
    }

    private static void bestDownToZero() {
        Supplier<GrindMill> worthless = holding(60, new int[] {PEACE, 9, 40}, plain(9, 0), new int[] {NOTHING, 9, 9});
        EDGE.asked(worthless, 0, "best", 12, NONE);
        EDGE.asked(worthless, 12, "best", 12, 0);
        EDGE.asked(worthless, 0, "best", 12, 1);
        // Ten bushels fetch 2 or 1, all others 0, none less.
        Supplier<GrindMill> cheap = holding(60, plain(9, 2));
        EDGE.asked(cheap, 14, "best", 1, NONE);
        EDGE.asked(cheap, 15, "best", 2, NONE);
        EDGE.asked(cheap, 15, "best", 12, NONE);
        EDGE.asked(cheap, 12, "best", 12, 0);
    }

    private static GrindMill soldOf(int n) {
        GrindMill x = Houses.grinding(PLAIN, 5, 2);
        x.hour(60);
        if (n > 0) {
            x.sell(0, n);
        }
        return x;
    }

    private static void bestBehindWhatIsSold() {
        EDGE.asked(() -> soldOf(0), 10, "best", 1, NONE);
        EDGE.asked(() -> soldOf(4), 6, "best", 1, NONE);
        EDGE.asked(() -> soldOf(5), 5, "best", 1, NONE);
        EDGE.asked(() -> soldOf(9), 1, "best", 12, NONE);
        EDGE.asked(() -> soldOf(10), 0, "best", 12, NONE);
        EDGE.asked(() -> soldOf(200), 0, "best", 12, NONE);
        // What lies in the house is not sold with it.
        EDGE.asked(() -> soldOf(0), 0, "best", 0, NONE);
    }

    private static void bestOfHourZeroAtThisCold() {
        EDGE.asked(later(holding(60, new int[] {MILLS, 1, 9}), 3, 9), 9, "best", 1, NONE);
        EDGE.asked(later(holding(60, new int[] {SLOW, 5, 9}), 0, 4), 45, "best", 1, NONE);
        EDGE.asked(later(holding(60, new int[] {SLOW, 5, 9}), 0, 5), 27, "best", 1, NONE);
        EDGE.asked(later(holding(0, new int[] {SALT, 9, 3}), 0, 5), 6, "best", 1, NONE);
    }

    // "SHIP: it sinks by more than n (0 .. 300) BUSHELS: in how many HOURS (1 .. 60), .. none aboard at first; none." "SHIP. NONE. BAD."

    private static void shipTakes0To300() {
        EDGE.asked(holding(60, plain(6, 1)), 1, "ship", 0, 0);
        EDGE.asked(holding(60, plain(6, 1)), 51, "ship", 0, 300);
        EDGE.badOutside(1, 0, 300, "ship", 0, 0);
    }

    private static void shipOfWhatIsThere() {
        EDGE.bad(Houses.EMPTY, "ship", 0, 0);
        EDGE.asked(Houses.BUSY, 1, "ship", 2, 0);
        EDGE.bad(Houses.BUSY, "ship", 3, 0);
        EDGE.asked(Houses.CRAMMED, NONE, "ship", 5, 0);
        EDGE.badOutside(0, 0, 5, "ship", 0, 0);
    }

    private static void shipSinksByMoreThan() {
        EDGE.asked(holding(60, plain(6, 1)), 1, "ship", 0, 5);
        EDGE.asked(holding(60, plain(6, 1)), 2, "ship", 0, 6);
        EDGE.asked(holding(60, plain(6, 1)), 2, "ship", 0, 11);
        EDGE.asked(holding(60, plain(6, 1)), 3, "ship", 0, 12);
    }

    private static void shipIn60AndNone() {
        EDGE.asked(holding(60, plain(5, 1)), 60, "ship", 0, 299);
        EDGE.asked(holding(60, plain(5, 1)), NONE, "ship", 0, 300);
        EDGE.asked(holding(60, plain(1, 1)), 60, "ship", 0, 59);
        EDGE.asked(holding(60, plain(1, 1)), NONE, "ship", 0, 60);
        EDGE.asked(holding(60, new int[] {NOTHING, 9, 1}), NONE, "ship", 0, 0);
    }

    private static void shipFromThisHourNoneAboard() {
        EDGE.asked(later(grinding(200, PLAIN, 6), 9, 0), 2, "ship", 0, 6);
        EDGE.asked(holding(0, plain(6, 1)), 2, "ship", 0, 6);
        EDGE.asked(later(holding(60, new int[] {MILLS, 1, 1}), 3, 0), 1, "ship", 0, 3);
        EDGE.asked(later(holding(60, new int[] {MILLS, 1, 1}), 3, 0), 2, "ship", 0, 4);
        EDGE.asked(later(holding(60, new int[] {MILLS, 1, 1}), 4, 0), 3, "ship", 0, 3);
        EDGE.asked(later(holding(60, new int[] {SLOW, 9, 1}), 0, 4), 1, "ship", 0, 5);
        EDGE.asked(later(holding(60, new int[] {SLOW, 9, 1}), 0, 5), 2, "ship", 0, 5);
    }

    // "(Nothing is changed by these.)": not even what is asked next.

    private static void nothingIsKeptOfWhatWasAsked() {
        GrindMill x = Houses.holding(200, plain(9, 40), plain(7, 30), plain(2, 20));
        x.just(60, 0);
        x.best(12, 0);
        CHECK.due("just(9, 0)", x.just(9, 0), 1);
        CHECK.due("just(9, 1)", x.just(9, 1), 0);
        CHECK.due("just(2, 0)", x.just(2, 0), 0);
        CHECK.due("best(1, 0)", x.best(1, 0), 1);
        CHECK.due("best(0, 0)", x.best(0, 0), 0);
        x.best(12, 0);
        x.grind(0);
        x.hour(20);
        x.sell(0, 180);
        CHECK.due("best(1, -1) behind a sale", x.best(1, NONE), 5 * 30 + 2 * 29);
        CHECK.due("best(1, 0) behind a sale", x.best(1, 0), 0);
        CHECK.due("best(1, 1) behind a sale", x.best(1, 1), 1);
        x.mill(200);
        CHECK.due("best(12, -1) of no goods then", x.best(12, NONE), 0);
        CHECK.due("just(9, -1) of no goods then", x.just(9, NONE), NONE);
        x.goods(PLAIN, 1, 1);
        CHECK.due("best(1, -1) of fewer goods then", x.best(1, NONE), 1);
        CHECK.due("best(12, -1) of fewer goods then", x.best(12, NONE), 5);
        CHECK.due("just(60, -1) of fewer goods then", x.just(60, NONE), 60);
    }

    private static void nothingIsChanged() {
        for (Supplier<GrindMill> house : Houses.ALL) {
            EDGE.asked(house, house.get().then(60, 1), "then", 60, 1);
            EDGE.asked(house, house.get().full(), "full");
            EDGE.asked(house, house.get().just(60, NONE), "just", 60, NONE);
            EDGE.asked(house, house.get().best(12, NONE), "best", 12, NONE);
        }
        EDGE.asked(Houses.BUSY, Houses.BUSY.get().ship(2, 300), "ship", 2, 300);
        EDGE.asked(Houses.CRAMMED, Houses.CRAMMED.get().ship(5, 300), "ship", 5, 300);
    }
}
