import java.util.function.Supplier;

/** The edges of promises 8 to 15: grind, hour, say, sell, cold, undo, of, grinds. */
public final class EdgeHoursTest {
    private static final Edge EDGE = new Edge("EdgeHoursTest");
    private static final Check CHECK = EDGE.check;
    /** 200 lie there, of which none is sold. */
    private static final Supplier<GrindMill> STOCKED = EdgeHoursTest::stocked;

    public static void main(String[] args) {
        grindTakesWhatIsThere();
        grindTellsWhatItGround();
        hourTakes1To60();
        hourCountsTheSpilled();
        sayTakes0To31();
        sellTakes1To200();
        sellOfWhatIsThere();
        sellBadAheadOfNo();
        sellJustAllAndOneMore();
        coldTakes0To9();
        undoOfNone();
        undoOfEight();
        undoOfTheNinth();
        undoTakesHoursTogether();
        undoBringsBackEach();
        undoBringsBackAllEight();
        undoOfWhatChangedNothing();
        undoneMayBeDoneAgain();
        goodsLeaveNothingToUndo();
        refusedGoodsLeaveWhatMayBeUndone();
        refusedAndAskedAreNotUndone();
        otherCallsAreNotUndone();
        ofTakes0To6();
        ofWhatIsThere();
        ofThisHour();
        grindsNoneOrTheLast();
        CHECK.end();
    }

    private static GrindMill stocked() {
        GrindMill x = Houses.grinding(0, 5, 40);
        x.hour(40);
        return x;
    }

    // "THE MILL grinds GOODS from now on: what it ground (NONE: nothing). BAD: -10."

    private static void grindTakesWhatIsThere() {
        EDGE.badApart(Houses.EMPTY, "grind", 0);
        EDGE.badApart(Houses.EMPTY, "grind", GrindMill.NONE);
        EDGE.taken(Houses.BUSY, 0, "grind", 0);
        EDGE.taken(Houses.BUSY, 0, "grind", 2);
        EDGE.badApart(Houses.BUSY, "grind", 3);
        EDGE.badApart(Houses.BUSY, "grind", GrindMill.NONE);
        EDGE.taken(Houses.CRAMMED, 5, "grind", 5);
        EDGE.badApartOutside(0, 0, 5, "grind", 0);
    }

    private static void grindTellsWhatItGround() {
        CHECK.due("it grinds now", EDGE.taken(() -> Houses.holding(60, new int[] {0, 1, 1}), GrindMill.NONE, "grind", 0).grinds(), 0);
        CHECK.due("it grinds now", EDGE.taken(Houses.CRAMMED, 5, "grind", 0).grinds(), 0);
    }

    // "n (1 .. 60) HOURS go by (together one that may be undone): how many BUSHELS are ground in them. BAD."

    private static void hourTakes1To60() {
        CHECK.due("the HOUR", EDGE.taken(Houses.EMPTY, 0, "hour", 1).count(1), 1);
        CHECK.due("the HOUR", EDGE.taken(Houses.EMPTY, 0, "hour", 60).count(1), 60);
        EDGE.taken(() -> Houses.grinding(3, 9, 1), 9, "hour", 1);
        EDGE.taken(() -> Houses.grinding(3, 9, 1), 630, "hour", 60);
        EDGE.badOutside(0, 1, 60, "hour", 1);
    }

    private static void hourCountsTheSpilled() {
        EDGE.taken(() -> Houses.grinding(0, 0, 9, 1), 540, "hour", 60);
        EDGE.taken(() -> Houses.grinding(1, 0, 9, 1), 9, "hour", 1);
        EDGE.taken(() -> Houses.grinding(0, 5, 9, 1), 0, "hour", 60);
    }

    // "A WORD is said: the answer. BAD."

    private static void sayTakes0To31() {
        EDGE.taken(Houses.BUSY, 3, "say", 0);
        EDGE.taken(Houses.BUSY, 2, "say", 31);
        EDGE.badOutside(0, 0, 31, "say", 0);
    }

    // "n (1 .. 200) BUSHELS are SOLD: what they fetch. BAD; NO: there are not so many."

    private static void sellTakes1To200() {
        EDGE.taken(STOCKED, 40, "sell", 0, 1);
        CHECK.due("money", EDGE.taken(STOCKED, 4100, "sell", 0, 200).count(4), 4100);
        EDGE.bad(STOCKED, "sell", 0, 0);
        EDGE.bad(STOCKED, "sell", 0, 201);
        EDGE.badOutside(1, 1, 200, "sell", 0, 1);
    }

    private static void sellOfWhatIsThere() {
        EDGE.bad(STOCKED, "sell", 1, 1);
        EDGE.bad(STOCKED, "sell", -1, 1);
        EDGE.bad(Houses.EMPTY, "sell", 0, 1);
        EDGE.badOutside(0, 0, 5, "sell", 0, 1);
    }

    private static void sellBadAheadOfNo() {
        Supplier<GrindMill> bare = () -> Houses.grinding(0, 5, 40);
        EDGE.no(bare, "sell", 0, 1);
        EDGE.no(bare, "sell", 0, 200);
        EDGE.bad(bare, "sell", 0, 0);
        EDGE.bad(bare, "sell", 0, 201);
        EDGE.bad(bare, "sell", 1, 200);
        EDGE.bad(bare, "sell", 1, 0);
    }

    private static void sellJustAllAndOneMore() {
        Supplier<GrindMill> five = () -> {
            GrindMill x = Houses.holding(60, new int[] {0, 5, 3}, new int[] {0, 9, 9});
            x.grind(1);
            x.hour(1);
            x.grind(0);
            x.hour(1);
            return x;
        };
        GrindMill x = EDGE.taken(five, 15, "sell", 0, 5);
        CHECK.due("none is left", x.of(0, 3), 0);
        CHECK.due("sold", x.of(0, 4), 5);
        CHECK.due("the others lie", x.of(1, 3), 9);
        CHECK.due("of none", x.sell(0, 1), GrindMill.NO);
        EDGE.no(five, "sell", 0, 6);
    }

    // "COLD (0 .. 9; ..)" "COLD: what it was. BAD."

    private static void coldTakes0To9() {
        CHECK.due("least", EDGE.taken(Houses.BUSY, 6, "cold", 0).count(9), 0);
        CHECK.due("most", EDGE.taken(Houses.BUSY, 6, "cold", 9).count(9), 9);
        CHECK.due("as it is", EDGE.taken(Houses.BUSY, 6, "cold", 6).count(9), 6);
        EDGE.badOutside(0, 0, 9, "cold", 0);
    }

    // "UNDO: the HOUR then. NO: none may be." "(8 at most; behind GOODS that come none may be)"

    private static void undoOfNone() {
        EDGE.no(Houses.EMPTY, "undo");
        EDGE.no(() -> Houses.holding(0), "undo");
        EDGE.no(() -> {
            GrindMill x = Houses.grinding(0, 1, 1);
            x.undo();
            return x;
        }, "undo");
    }

    private static GrindMill passed(int hours) {
        GrindMill x = Houses.holding(200, new int[] {0, 1, 1});
        for (int i = 0; i < hours; i++) {
            x.hour(1);
        }
        return x;
    }

    private static void undoOfEight() {
        GrindMill x = passed(8);
        CHECK.due("may be undone", x.count(7), 8);
        for (int hour = 7; hour >= 0; hour--) {
            CHECK.due("undo", x.undo(), hour);
            CHECK.due("may be undone", x.count(7), hour);
        }
        CHECK.due("undo of none", x.undo(), GrindMill.NO);
        CHECK.due("the HOUR", x.count(1), 0);
    }

    private static void undoOfTheNinth() {
        for (int hours : new int[] {9, 16, 17, 40}) {
            GrindMill x = passed(hours);
            CHECK.due("may be undone", x.count(7), 8);
            for (int i = 1; i <= 8; i++) {
                CHECK.due("undo", x.undo(), hours - i);
            }
            CHECK.due("undo of the ninth", x.undo(), GrindMill.NO);
            CHECK.due("the HOUR", x.count(1), hours - 8);
        }
    }

    private static void undoTakesHoursTogether() {
        GrindMill x = Houses.holding(10, new int[] {0, 1, 1});
        x.hour(60);
        CHECK.due("one may be undone", x.count(7), 1);
        CHECK.due("undo", x.undo(), 0);
    }

    private static void undoBringsBackEach() {
        String[] names = {"grind", "hour", "say", "say", "sell", "cold"};
        int[][] numbers = {{1}, {60}, {21}, {20}, {0, 20}, {5}};
        for (int i = 0; i < names.length; i++) {
            GrindMill x = Houses.CRAMMED.get();
            for (int k = 0; k < 8; k++) {
                x.undo();
            }
            long before = x.digest();
            int hour = x.count(1);
            Edge.call(x, names[i], numbers[i]);
            CHECK.due(names[i] + " may be undone", x.count(7), 1);
            CHECK.holds(names[i] + " changed something", x.digest() != before);
            CHECK.due("undo of " + names[i], x.undo(), hour);
            CHECK.due("all as ahead of " + names[i], x.digest(), before);
            CHECK.due("undo of none", x.undo(), GrindMill.NO);
        }
    }

    /** Of all five some lie and some are sold, some were spilled, and a sixth came, so that nothing may be undone. */
    private static GrindMill traded() {
        GrindMill x = Houses.holding(100, new int[] {0, 9, 40}, new int[] {1, 8, 30}, new int[] {2, 7, 20},
            new int[] {3, 6, 10}, new int[] {4, 5, 5});
        for (int g = 0; g < 5; g++) {
            x.grind(g);
            x.hour(3);
            x.sell(g, g + 3);
        }
        x.hour(9);
        x.goods(0, 2, 2);
        return x;
    }

    private static void undoBringsBackAllEight() {
        String[] names = {"sell", "grind", "hour", "cold", "sell", "say", "grind", "hour"};
        int[][] numbers = {{1, 11}, {5}, {7}, {8}, {5, 2}, {0}, {3}, {60}};
        GrindMill x = traded();
        long[] ahead = new long[8];
        int[] hours = new int[8];
        for (int i = 0; i < 8; i++) {
            ahead[i] = x.digest();
            hours[i] = x.count(1);
            Edge.call(x, names[i], numbers[i]);
        }
        CHECK.due("none of them was refused", x.status(0) + x.status(1) + x.status(2), 0);
        for (int i = 7; i >= 0; i--) {
            CHECK.due("undo of " + names[i], x.undo(), hours[i]);
            CHECK.due("all as ahead of " + names[i], x.digest(), ahead[i]);
        }
        CHECK.due("undo of none", x.undo(), GrindMill.NO);
    }

    private static void undoOfWhatChangedNothing() {
        GrindMill x = Houses.grinding(0, 1, 1);
        x.grind(0);
        x.cold(0);
        x.say(31);
        CHECK.due("each may be undone", x.count(7), 4);
        x.undo();
        x.undo();
        x.undo();
        CHECK.due("it grinds still", x.grinds(), 0);
        x.undo();
        CHECK.due("it is still", x.grinds(), GrindMill.NONE);
    }

    private static void undoneMayBeDoneAgain() {
        GrindMill x = passed(12);
        x.undo();
        x.undo();
        x.cold(3);
        CHECK.due("may be undone", x.count(7), 7);
        x.cold(4);
        x.cold(5);
        CHECK.due("may be undone", x.count(7), 8);
        int[] colds = {4, 3, 0, 0, 0, 0, 0, 0};
        int[] hours = {10, 10, 10, 9, 8, 7, 6, 5};
        for (int i = 0; i < 8; i++) {
            CHECK.due("undo", x.undo(), hours[i]);
            CHECK.due("cold", x.count(9), colds[i]);
        }
        CHECK.due("undo of none", x.undo(), GrindMill.NO);
    }

    private static void goodsLeaveNothingToUndo() {
        Supplier<GrindMill> behind = () -> {
            GrindMill x = passed(9);
            x.goods(0, 1, 1);
            return x;
        };
        EDGE.no(behind, "undo");
        EDGE.asked(behind, 0, "count", 7);
        GrindMill x = behind.get();
        x.hour(1);
        CHECK.due("what comes behind them may be", x.undo(), 9);
        CHECK.due("no more", x.undo(), GrindMill.NO);
    }

    private static void refusedGoodsLeaveWhatMayBeUndone() {
        GrindMill x = Houses.CRAMMED.get();
        CHECK.due("may be undone", x.count(7), 8);
        CHECK.due("a 7th", x.goods(0, 1, 0), GrindMill.FULL);
        CHECK.due("a wrong one", x.goods(0, 0, 0), GrindMill.BAD);
        CHECK.due("may be undone", x.count(7), 8);
    }

    private static void refusedAndAskedAreNotUndone() {
        GrindMill x = passed(3);
        x.grind(1);
        x.hour(0);
        x.say(32);
        x.sell(0, 1);
        x.sell(0, 0);
        x.cold(10);
        x.then(60, 0);
        x.mills(1, 60);
        x.best(12, 0);
        x.thieves(0, 9, 5);
        CHECK.due("may be undone", x.count(7), 3);
        CHECK.due("undo", x.undo(), 2);
    }

    private static void otherCallsAreNotUndone() {
        GrindMill x = passed(3);
        x.word(5);
        x.guess(1, 1);
        x.note(0, 1, 1, 1);
        x.type('m');
        x.image(0);
        CHECK.due("may be undone", x.count(7), 3);
        CHECK.due("undo", x.undo(), 2);
        CHECK.due("the guess stays", x.count(5), 1);
        CHECK.due("the note stays", x.count(6), 1);
        CHECK.due("the text stays", x.count(8), 1);
        x.forget(0);
        x.forget(1);
        x.clear();
        CHECK.due("may be undone", x.count(7), 2);
        CHECK.due("undo", x.undo(), 1);
        CHECK.due("THE WORD stays", x.say(5), 5);
    }

    // "Of GOODS: KIND (0), .. what one fetches now (6). BAD."

    private static void ofTakes0To6() {
        int[] due = {0, 9, 40, 47, 3, 9, 40};
        for (int what = 0; what <= 6; what++) {
            EDGE.asked(MillTest::busy, due[what], "of", 0, what);
        }
        EDGE.badOutside(1, 0, 6, "of", 0, 0);
    }

    private static void ofWhatIsThere() {
        EDGE.bad(Houses.EMPTY, "of", 0, 0);
        EDGE.asked(Houses.BUSY, 3, "of", 2, 0);
        EDGE.bad(Houses.BUSY, "of", 3, 0);
        EDGE.asked(Houses.CRAMMED, 5, "of", 5, 0);
        EDGE.badOutside(0, 0, 5, "of", 0, 0);
        EDGE.bad(Houses.BUSY, "of", 3, 7);
    }

    private static void ofThisHour() {
        GrindMill x = Houses.holding(200, new int[] {3, 1, 1}, new int[] {1, 5, 2});
        for (int hour = 0; hour < 9; hour++) {
            CHECK.due("ground in hour " + hour, x.of(0, 5), 1 + hour % 4);
            x.hour(1);
        }
        x.cold(4);
        CHECK.due("slow at cold 4", x.of(1, 5), 5);
        x.cold(5);
        CHECK.due("slow at cold 5", x.of(1, 5), 3);
        x.grind(1);
        x.hour(60);
        x.sell(1, 4);
        CHECK.due("fetches behind 4", x.of(1, 6), 2);
        x.sell(1, 1);
        CHECK.due("fetches behind 5", x.of(1, 6), 1);
        x.sell(1, 5);
        CHECK.due("fetches behind 10", x.of(1, 6), 0);
        x.sell(1, 100);
        CHECK.due("fetches behind 110", x.of(1, 6), 0);
    }

    // "What is ground. NONE: nothing."

    private static void grindsNoneOrTheLast() {
        EDGE.asked(Houses.EMPTY, GrindMill.NONE, "grinds");
        EDGE.asked(() -> Houses.grinding(0, 1, 1), 0, "grinds");
        EDGE.asked(Houses.CRAMMED, 5, "grinds");
        EDGE.asked(() -> {
            GrindMill x = Houses.CRAMMED.get();
            x.say(21);
            return x;
        }, GrindMill.NONE, "grinds");
    }
}
