/** Promises 25 to 30: note, forget, is, look, thieves, mills. */
public final class NightTest {
    private static final Check CHECK = new Check("NightTest");

    public static void main(String[] args) {
        note();
        forget();
        isKinds();
        isRates();
        look();
        thieves();
        thievesFromThisHour();
        mills();
        CHECK.end();
    }

    private static void note() {
        GrindMill x = new GrindMill();
        CHECK.due("note(0, 0, 0, 0) of none", x.note(0, 0, 0, 0), GrindMill.BAD);
        x.goods(0, 1, 1);
        int[][] wrong = {{-1, 0, 0, 0}, {1, 0, 0, 0}, {0, -1, 0, 0}, {0, 100, 0, 0}, {0, 0, -1, 0},
            {0, 0, 10, 0}, {0, 0, 0, -1}, {0, 0, 0, 21}};
        for (int[] w : wrong) {
            CHECK.due("a wrong note", x.note(w[0], w[1], w[2], w[3]), GrindMill.BAD);
        }
        for (int i = 1; i <= 6; i++) {
            CHECK.due("note " + i, x.note(0, 99, 9, 20), i);
        }
        CHECK.due("a 7th note", x.note(0, 0, 0, 0), GrindMill.FULL);
        CHECK.due("a wrong 7th note", x.note(0, 0, 0, 21), GrindMill.BAD);
        CHECK.due("notes", x.count(6), 6);
        CHECK.due("BAD", x.status(0), 10);
        CHECK.due("FULL", x.status(2), 1);
    }

    private static void forget() {
        GrindMill x = new GrindMill();
        x.goods(0, 1, 1);
        x.note(0, 1, 2, 3);
        x.note(0, 1, 2, 4);
        x.guess(1, 1);
        CHECK.due("forget(0)", x.forget(0), 1);
        CHECK.due("guesses", x.count(5), 0);
        CHECK.due("notes", x.count(6), 2);
        CHECK.due("forget(1)", x.forget(1), 2);
        CHECK.due("notes", x.count(6), 0);
        CHECK.due("forget(0)", x.forget(0), 0);
        CHECK.due("forget(-1)", x.forget(-1), GrindMill.BAD);
        CHECK.due("forget(2)", x.forget(2), GrindMill.BAD);
        CHECK.due("is() is free again", x.is(0, 0), 63);
        CHECK.due("a note behind it is the first", x.note(0, 0, 0, 1), 1);
    }

    private static void isKinds() {
        GrindMill x = new GrindMill();
        x.goods(0, 4, 1);
        x.goods(0, 4, 1);
        CHECK.due("is(0, 0) of no notes", x.is(0, 0), 63);
        x.note(0, 4, 4, 4);
        CHECK.due("plain, slow, peace, mills", x.is(0, 0), 0b001111);
        CHECK.due("others have their own notes", x.is(1, 0), 63);
        x.note(0, 1, 0, 4);
        CHECK.due("no mills", x.is(0, 0), 0b000111);
        x.note(0, 0, 5, 2);
        CHECK.due("slow", x.is(0, 0), 0b000010);
        x.note(0, 0, 5, 3);
        CHECK.due("none", x.is(0, 0), 0);
        x.note(1, 0, 5, 3);
        CHECK.due("salt in the cold", x.is(1, 0), 0b010000);
        x.forget(1);
        x.note(1, 99, 9, 0);
        CHECK.due("nothing", x.is(1, 0), 0b100000);
        x.forget(1);
        x.note(1, 99, 9, 7);
        CHECK.due("mills at 99", x.is(1, 0), 0b001000);
        CHECK.due("is(-1, 0)", x.is(-1, 0), GrindMill.BAD);
        CHECK.due("is(2, 0)", x.is(2, 0), GrindMill.BAD);
        CHECK.due("is(0, -1)", x.is(0, -1), GrindMill.BAD);
        CHECK.due("is(0, 2)", x.is(0, 2), GrindMill.BAD);
    }

    private static void isRates() {
        GrindMill x = new GrindMill();
        x.goods(1, 4, 1);
        x.goods(5, 4, 1);
        CHECK.due("is(0, 1) of no notes", x.is(0, 1), 9);
        x.note(0, 0, 5, 2);
        CHECK.due("3 and 4 by half", x.is(0, 1), 2);
        x.note(0, 0, 4, 3);
        CHECK.due("3", x.is(0, 1), 1);
        x.note(0, 0, 4, 4);
        CHECK.due("none", x.is(0, 1), 0);
        x.note(1, 0, 0, 0);
        CHECK.due("nothing, by any rate", x.is(1, 1), 9);
        x.note(1, 0, 0, 1);
        CHECK.due("never", x.is(1, 1), 0);
    }

    private static void look() {
        GrindMill x = new GrindMill();
        x.goods(0, 1, 1);
        x.goods(0, 4, 1);
        // Rate 4 at cold 5: 4, 2, 4, 4 + h, 3, 0; at HOUR 1 only two are alike.
        CHECK.due("look(1)", x.look(1), 51);
        // Rate 1 at cold 0: 1, 1, 1, 1 + h, 2, 0: three alike at best, as in the cold.
        CHECK.due("look(0)", x.look(0), 1);
        x.note(1, 1, 0, 4);
        // Plain, slow, peace are left.
        CHECK.due("look(1)", x.look(1), 50);
        x.note(1, 1, 5, 4);
        CHECK.due("look(1): plain and peace never differ", x.look(1), 0);
        x.note(1, 1, 5, 2);
        CHECK.due("look(1): no kind", x.look(1), GrindMill.NONE);
        CHECK.due("look(-1)", x.look(-1), GrindMill.BAD);
        CHECK.due("look(2)", x.look(2), GrindMill.BAD);
        CHECK.due("BAD", x.status(0), 2);
    }

    private static void fraction(GrindMill x, long above, long below) {
        CHECK.due("above", x.part(0), above);
        CHECK.due("below", x.part(1), below);
    }

    private static void thieves() {
        GrindMill x = new GrindMill();
        CHECK.due("thieves(0, 0, 0) of none", x.thieves(0, 0, 0), GrindMill.BAD);
        x.goods(0, 8, 1);
        CHECK.due("thieves(0, 1, 5)", x.thieves(0, 1, 5), 1);
        fraction(x, 4, 1);
        CHECK.due("thieves(0, 2, 5)", x.thieves(0, 2, 5), 1);
        fraction(x, 6, 1);
        CHECK.due("thieves(0, 4, 5)", x.thieves(0, 4, 5), 1);
        fraction(x, 15, 2);
        CHECK.due("thieves(0, 9, 0)", x.thieves(0, 9, 0), 1);
        fraction(x, 72, 1);
        CHECK.due("thieves(0, 10, 0)", x.thieves(0, 10, 0), GrindMill.BAD);
        CHECK.due("thieves(0, -1, 0)", x.thieves(0, -1, 0), GrindMill.BAD);
        CHECK.due("thieves(0, 0, -1)", x.thieves(0, 0, -1), GrindMill.BAD);
        CHECK.due("thieves(0, 0, 11)", x.thieves(0, 0, 11), GrindMill.BAD);
        CHECK.due("thieves(1, 0, 0)", x.thieves(1, 0, 0), GrindMill.BAD);
        fraction(x, 72, 1);
        CHECK.due("thieves(0, 9, 10)", x.thieves(0, 9, 10), 1);
        fraction(x, 0, 1);
        x.thieves(0, 3, 1);
        CHECK.due("thieves(0, 0, 3)", x.thieves(0, 0, 3), 1);
        fraction(x, 0, 1);
    }

    private static void thievesFromThisHour() {
        GrindMill x = new GrindMill();
        x.goods(3, 1, 1);
        x.hour(2);
        // 3 by 7/10, 4 by 49/100, 1 by 343/1000.
        x.thieves(0, 3, 3);
        fraction(x, 4403, 1000);
        x.goods(4, 9, 1);
        x.cold(5);
        x.thieves(1, 9, 1);
        long sum = 0;
        long left = 1;
        for (int i = 0; i < 9; i++) {
            left *= 9;
            sum = sum * 10 + 6 * left;
        }
        CHECK.due("lowest terms, not larger", x.part(0) * (1000000000L / x.part(1)), sum);
        CHECK.due("they have no divisor of 2 in common", x.part(0) % 2 + x.part(1) % 2 == 0 ? 1 : 0, 0);
    }

    private static void mills() {
        GrindMill x = new GrindMill();
        CHECK.due("mills(0, 60) of none", x.mills(0, 60), 0);
        x.mill(5);
        x.goods(0, 1, 1);
        x.goods(3, 2, 1);
        x.goods(4, 3, 1);
        x.grind(0);
        x.hour(7);
        x.sell(0, 2);
        CHECK.due("mills(1, 0): 3 lie, 2 are spilled", x.mills(1, 0), 5);
        // X by SEED 1: 1103527590, 377401575, 662824084, 1147902781, ..
        long due = 5;
        long seed = 1;
        for (int n = 1; n <= 60; n++) {
            seed = (seed * 1103515245L + 12345L) & 0x7fffffffL;
            int g = (int) (seed >> 16) & 7;
            due += g == 0 ? 1 : g == 1 ? 2 + (6 + n) % 4 : g == 2 ? 4 : 0;
            CHECK.due("mills(1, " + n + ")", x.mills(1, n), due);
        }
        CHECK.due("mills(999999, 0)", x.mills(999999, 0), 5);
        CHECK.due("mills(-1, 0)", x.mills(-1, 0), GrindMill.BAD);
        CHECK.due("mills(1000000, 0)", x.mills(1000000, 0), GrindMill.BAD);
        CHECK.due("mills(0, -1)", x.mills(0, -1), GrindMill.BAD);
        CHECK.due("mills(0, 61)", x.mills(0, 61), GrindMill.BAD);
        CHECK.due("BAD", x.status(0), 4);
    }
}
