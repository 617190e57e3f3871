/** Promises 8 to 15: grind, hour, say, sell, cold, undo, of, grinds. */
public final class HoursTest {
    private static final Check CHECK = new Check("HoursTest");

    public static void main(String[] args) {
        grind();
        hour();
        hourOfAllKinds();
        spilling();
        say();
        sell();
        fetchesOfAllKinds();
        cold();
        undoOfEach();
        undoDepth();
        undoBehindGoods();
        of();
        CHECK.end();
    }

    private static GrindMill with(int kind, int rate, int price) {
        GrindMill x = new GrindMill();
        x.mill(200);
        x.goods(kind, rate, price);
        x.grind(0);
        return x;
    }

    private static void grind() {
        GrindMill x = new GrindMill();
        CHECK.due("grind(0) of none", x.grind(0), -10);
        x.goods(0, 1, 1);
        x.goods(0, 2, 1);
        CHECK.due("grinds()", x.grinds(), GrindMill.NONE);
        CHECK.due("grind(1)", x.grind(1), GrindMill.NONE);
        CHECK.due("grind(0)", x.grind(0), 1);
        CHECK.due("grind(0)", x.grind(0), 0);
        CHECK.due("grinds()", x.grinds(), 0);
        CHECK.due("grind(-1)", x.grind(-1), -10);
        CHECK.due("grind(2)", x.grind(2), -10);
        CHECK.due("grinds()", x.grinds(), 0);
        CHECK.due("BAD", x.status(0), 3);
        CHECK.due("each told one may be undone", x.count(7), 3);
    }

    private static void hour() {
        GrindMill x = new GrindMill();
        CHECK.due("hour(60) of nothing", x.hour(60), 0);
        CHECK.due("the HOUR", x.count(1), 60);
        x.goods(0, 3, 1);
        x.grind(0);
        CHECK.due("hour(0)", x.hour(0), GrindMill.BAD);
        CHECK.due("hour(61)", x.hour(61), GrindMill.BAD);
        CHECK.due("hour(least)", x.hour(Integer.MIN_VALUE), GrindMill.BAD);
        CHECK.due("hour(4)", x.hour(4), 12);
        CHECK.due("the HOUR", x.count(1), 64);
        CHECK.due("bushels", x.of(0, 3), 12);
    }

    private static void hourOfAllKinds() {
        int[] warm = {5, 5, 5, 5 + 5 + 6 + 7 + 8, 6, 0};
        int[] chill = {5, 3, 5, 5, 4, 0};
        for (int kind = 0; kind < 6; kind++) {
            GrindMill x = with(kind, 5, 10);
            CHECK.due("kind " + kind, x.hour(5), kind == 3 ? warm[kind] : 5 * warm[kind]);
            x = with(kind, 5, 10);
            x.cold(5);
            CHECK.due("kind " + kind + " at cold 5", x.hour(1), chill[kind]);
            x.cold(4);
            CHECK.due("kind " + kind + " at cold 4", x.hour(1), kind == 3 ? 6 : kind == 4 ? 6 : kind == 5 ? 0 : 5);
        }
        GrindMill even = with(1, 4, 10);
        even.cold(9);
        CHECK.due("half of an even rate", even.hour(1), 2);
        GrindMill one = with(4, 1, 10);
        one.cold(9);
        CHECK.due("half of 1, cut up, and one", one.hour(1), 2);
    }

    private static void spilling() {
        GrindMill x = new GrindMill();
        x.mill(10);
        x.goods(0, 4, 1);
        x.goods(0, 7, 1);
        x.grind(0);
        CHECK.due("hour(2)", x.hour(2), 8);
        CHECK.due("spilled none", x.count(3), 0);
        x.grind(1);
        CHECK.due("hour(1)", x.hour(1), 7);
        CHECK.due("two stay", x.of(1, 3), 2);
        CHECK.due("five are spilled", x.count(3), 5);
        CHECK.due("in the house", x.count(2), 10);
        x.sell(0, 3);
        CHECK.due("hour(1)", x.hour(1), 7);
        CHECK.due("room by a sale", x.of(1, 3), 5);
        CHECK.due("spilled", x.count(3), 9);
    }

    private static void say() {
        GrindMill x = with(0, 2, 3);
        x.word(0b10110);
        CHECK.due("say: none like", x.say(0b01001), 0);
        CHECK.due("say: one like", x.say(0b11001), 1);
        CHECK.due("say: four like", x.say(0b10111), 4);
        CHECK.due("it grinds on", x.grinds(), 0);
        CHECK.due("say: all like", x.say(0b10110), 5);
        CHECK.due("it stops", x.grinds(), GrindMill.NONE);
        CHECK.due("say(-1)", x.say(-1), GrindMill.BAD);
        CHECK.due("say(32)", x.say(32), GrindMill.BAD);
        CHECK.due("each said one may be undone", x.count(7), 5);
        x.undo();
        CHECK.due("it grinds again", x.grinds(), 0);
    }

    private static void sell() {
        GrindMill x = with(0, 9, 3);
        CHECK.due("sell(0, 1) of none", x.sell(0, 1), GrindMill.NO);
        x.hour(2);
        CHECK.due("sell(0, 19) of 18", x.sell(0, 19), GrindMill.NO);
        CHECK.due("NO", x.status(1), 2);
        CHECK.due("sell(0, 4)", x.sell(0, 4), 12);
        CHECK.due("sell(0, 3)", x.sell(0, 3), 3 + 2 + 2);
        CHECK.due("sell(0, 11)", x.sell(0, 11), 3 * 2 + 5 * 1);
        CHECK.due("money", x.count(4), 12 + 7 + 11);
        CHECK.due("sold", x.of(0, 4), 18);
        CHECK.due("bushels", x.of(0, 3), 0);
        CHECK.due("sell(-1, 1)", x.sell(-1, 1), GrindMill.BAD);
        CHECK.due("sell(1, 1)", x.sell(1, 1), GrindMill.BAD);
        CHECK.due("sell(0, 0)", x.sell(0, 0), GrindMill.BAD);
        CHECK.due("sell(0, 201)", x.sell(0, 201), GrindMill.BAD);
        CHECK.due("sell(0, 200)", x.sell(0, 200), GrindMill.NO);
        GrindMill all = with(0, 9, 40);
        all.hour(60);
        CHECK.due("sell(0, 200) of 200", all.sell(0, 200), 5 * (40 * 41 / 2));
        CHECK.due("fetches no more", all.of(0, 6), 0);
    }

    private static void fetchesOfAllKinds() {
        int[] first = {9, 9, 0, 9, 4, 1};
        int[] later = {8, 8, 0, 8, 4, 1};
        for (int kind = 0; kind < 6; kind++) {
            GrindMill x = with(kind, 9, 9);
            CHECK.due("kind " + kind + " fetches", x.of(0, 6), first[kind]);
            x.hour(1);
            if (kind != 5) {
                x.sell(0, 5);
                CHECK.due("kind " + kind + " fetches behind 5", x.of(0, 6), later[kind]);
            }
        }
        GrindMill dear = with(4, 9, 1);
        CHECK.due("salt of 1 fetches", dear.of(0, 6), 0);
    }

    private static void cold() {
        GrindMill x = with(1, 9, 9);
        CHECK.due("cold(9)", x.cold(9), 0);
        CHECK.due("cold(0)", x.cold(0), 9);
        CHECK.due("cold(-1)", x.cold(-1), GrindMill.BAD);
        CHECK.due("cold(10)", x.cold(10), GrindMill.BAD);
        CHECK.due("COLD", x.count(9), 0);
        CHECK.due("cold(5)", x.cold(5), 0);
        CHECK.due("may be undone", x.count(7), 4);
    }

    private static void undoOfEach() {
        GrindMill x = with(0, 9, 9);
        x.goods(1, 4, 4);
        x.word(3);
        long atFirst = x.digest();
        long[] states = new long[8];
        for (int step = 0; step < 7; step++) {
            states[step] = x.digest();
            switch (step) {
                case 0: x.grind(1); break;
                case 1: x.hour(60); break;
                case 2: x.sell(1, 100); break;
                case 3: x.cold(7); break;
                case 4: x.say(2); break;
                case 5: x.say(3); break;
                default: x.hour(1); break;
            }
        }
        int[] hours = {0, 0, 60, 60, 60, 60, 60};
        for (int step = 6; step >= 0; step--) {
            CHECK.due("undo() of step " + step, x.undo(), hours[step]);
            CHECK.due("state ahead of step " + step, x.digest(), states[step]);
        }
        CHECK.due("all as at first", x.digest(), atFirst);
        CHECK.due("undo() of none", x.undo(), GrindMill.NO);
        CHECK.due("NO", x.status(1), 1);
    }

    private static void undoDepth() {
        GrindMill x = with(0, 1, 1);
        for (int i = 0; i < 20; i++) {
            x.hour(1);
            CHECK.due("may be undone", x.count(7), Math.min(8, i + 2));
        }
        for (int i = 1; i <= 8; i++) {
            CHECK.due("undo() " + i, x.undo(), 20 - i);
            CHECK.due("bushels then", x.count(2), 20 - i);
            CHECK.due("may be undone", x.count(7), 8 - i);
        }
        CHECK.due("undo() of the ninth", x.undo(), GrindMill.NO);
        CHECK.due("refused calls are not kept", x.hour(0), GrindMill.BAD);
        CHECK.due("may be undone", x.count(7), 0);
    }

    private static void undoBehindGoods() {
        GrindMill x = with(0, 1, 1);
        x.hour(1);
        CHECK.due("goods refused", x.goods(9, 9, 9), GrindMill.BAD);
        CHECK.due("may be undone", x.count(7), 2);
        CHECK.due("goods", x.goods(1, 1, 1), 1);
        CHECK.due("may be undone", x.count(7), 0);
        CHECK.due("undo()", x.undo(), GrindMill.NO);
        CHECK.due("what was ground stays", x.count(2), 1);
        x.hour(1);
        x.guess(1, 1);
        x.note(0, 1, 1, 1);
        x.word(4);
        CHECK.due("undo()", x.undo(), 1);
        CHECK.due("guesses stay", x.count(5), 1);
        CHECK.due("notes stay", x.count(6), 1);
        CHECK.due("THE WORD stays", x.say(4), 5);
    }

    private static void of() {
        GrindMill x = with(3, 6, 17);
        x.hour(6);
        x.sell(0, 13);
        int[] due = {3, 6, 17, 6 * 6 + 1 + 2 + 3 + 1 - 13, 13, 8, 15};
        for (int what = 0; what < due.length; what++) {
            CHECK.due("of(0, " + what + ")", x.of(0, what), due[what]);
        }
        CHECK.due("of(0, -1)", x.of(0, -1), GrindMill.BAD);
        CHECK.due("of(0, 7)", x.of(0, 7), GrindMill.BAD);
        CHECK.due("of(-1, 0)", x.of(-1, 0), GrindMill.BAD);
        CHECK.due("of(1, 0)", x.of(1, 0), GrindMill.BAD);
        CHECK.due("BAD", x.status(0), 4);
    }
}
