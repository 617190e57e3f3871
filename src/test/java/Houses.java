import java.util.List;
import java.util.function.Supplier;

/** Houses that tests begin with. */
final class Houses {
    static final Supplier<GrindMill> EMPTY = GrindMill::new;
    /** Everything has been used, some of each. */
    static final Supplier<GrindMill> BUSY = Houses::busy;
    /** As many of everything as there may be. */
    static final Supplier<GrindMill> CRAMMED = Houses::crammed;
    static final List<Supplier<GrindMill>> ALL = List.of(EMPTY, BUSY, CRAMMED);

    private static final String LONG_TEXT = "mill 99;goods 0 1 0;goods 1 2 8;goods 2 3 16;goods 3 4 24;goods 4 5 32;"
        + "goods 5 9 40;grind 5;word 31;cold 9;cold 0;word 0;grind 0;word    16;cold    5;";

    private Houses() {
    }

    private static GrindMill busy() {
        GrindMill x = MillTest.busy();
        Check.type(x, "mill 12;goods 4 5 6;grind 0;word 7;cold 8;");
        x.image(0);
        x.hour(2);
        x.sell(0, 1);
        x.undo();
        return x;
    }

    private static GrindMill crammed() {
        GrindMill x = new GrindMill();
        x.mill(200);
        for (int g = 0; g < 6; g++) {
            x.goods(g, 9 - g, 40 - g);
            x.guess(5 * g, g);
        }
        Check.type(x, LONG_TEXT);
        x.word(21);
        for (int g = 0; g < 6; g++) {
            x.note(g, 90 + g, g, 10 + g);
            x.grind(g);
            x.hour(6);
            x.image(g % 2);
        }
        x.sell(1, 7);
        // Eight that may be undone, by which all changes that can be.
        x.grind(3);
        x.hour(3);
        x.cold(7);
        x.say(21);
        x.grind(4);
        x.sell(3, 9);
        x.hour(60);
        x.grind(5);
        x.thieves(3, 9, 1);
        return x;
    }

    /** A house of 200 BUSHELS that grinds its only GOODS. */
    static GrindMill grinding(int kind, int rate, int price) {
        return grinding(200, kind, rate, price);
    }

    static GrindMill grinding(int h, int kind, int rate, int price) {
        GrindMill x = holding(h, new int[] {kind, rate, price});
        x.grind(0);
        return x;
    }

    /** A house of H BUSHELS with these GOODS, of which none is ground. */
    static GrindMill holding(int h, int[]... goods) {
        GrindMill x = new GrindMill();
        x.mill(h);
        for (int[] g : goods) {
            x.goods(g[0], g[1], g[2]);
        }
        return x;
    }

    static GrindMill guessed(int... pairs) {
        GrindMill x = new GrindMill();
        for (int i = 0; i + 1 < pairs.length; i += 2) {
            x.guess(pairs[i], pairs[i + 1]);
        }
        return x;
    }

    /** A busy house with this TEXT. */
    static GrindMill busyWith(String text) {
        GrindMill x = busy();
        Check.type(x, text);
        return x;
    }
}
