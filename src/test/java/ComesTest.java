/** Promises 16 to 20: then, full, just, best, ship. */
public final class ComesTest {
    private static final Check CHECK = new Check("ComesTest");

    public static void main(String[] args) {
        then();
        full();
        just();
        justNone();
        best();
        bestCountsSold();
        ship();
        nothingIsChanged();
        CHECK.end();
    }

    private static void then() {
        GrindMill x = new GrindMill();
        x.mill(20);
        CHECK.due("then(60, 0) of nothing", x.then(60, 0), 0);
        x.goods(3, 3, 1);
        x.grind(0);
        x.hour(2);
        CHECK.due("then(0, 0)", x.then(0, 0), 7);
        CHECK.due("then(1, 0)", x.then(1, 0), 12);
        CHECK.due("then(2, 0)", x.then(2, 0), 18);
        CHECK.due("then(2, 1)", x.then(2, 1), 0);
        CHECK.due("then(3, 0)", x.then(3, 0), 20);
        CHECK.due("then(3, 1)", x.then(3, 1), 1);
        x.hour(3);
        CHECK.due("then(0, 1) has what is spilled", x.then(0, 1), 1);
        CHECK.due("then(1, 1)", x.then(1, 1), 5);
        CHECK.due("then(-1, 0)", x.then(-1, 0), GrindMill.BAD);
        CHECK.due("then(61, 0)", x.then(61, 0), GrindMill.BAD);
        CHECK.due("then(0, -1)", x.then(0, -1), GrindMill.BAD);
        CHECK.due("then(0, 2)", x.then(0, 2), GrindMill.BAD);
        CHECK.due("BAD", x.status(0), 4);
    }

    private static void full() {
        GrindMill x = new GrindMill();
        CHECK.due("full() of nothing", x.full(), GrindMill.NONE);
        x.mill(0);
        CHECK.due("full() of H 0", x.full(), 0);
        x.mill(60);
        x.goods(0, 1, 1);
        CHECK.due("full() of a mill at rest", x.full(), GrindMill.NONE);
        x.grind(0);
        CHECK.due("full() in 60", x.full(), 60);
        x.mill(61);
        x.goods(0, 1, 1);
        x.grind(0);
        CHECK.due("full() in 61", x.full(), GrindMill.NONE);
        x.hour(1);
        CHECK.due("full() in 60", x.full(), 60);
        x.hour(60);
        CHECK.due("full() now", x.full(), 0);
        CHECK.due("none is refused", x.status(0) + x.status(1) + x.status(2), 0);
    }

    private static void just() {
        GrindMill x = new GrindMill();
        x.goods(0, 4, 1);
        x.goods(0, 3, 1);
        x.goods(0, 1, 1);
        // 6: 3 + 3 rather than 4 + 1 + 1.
        CHECK.due("just(6, -1)", x.just(6, -1), 2);
        CHECK.due("just(6, 0)", x.just(6, 0), 0);
        CHECK.due("just(6, 1)", x.just(6, 1), 2);
        CHECK.due("just(6, 2)", x.just(6, 2), 0);
        // 9: 4 + 4 + 1 ahead of 3 + 3 + 3.
        CHECK.due("just(9, -1)", x.just(9, -1), 3);
        CHECK.due("just(9, 0)", x.just(9, 0), 2);
        CHECK.due("just(9, 1)", x.just(9, 1), 0);
        CHECK.due("just(9, 2)", x.just(9, 2), 1);
        // MILLS of HOUR 0 grind their RATE, whatever the HOUR is; SLOW as it is cold now.
        x.mill(0);
        x.goods(3, 5, 1);
        x.goods(1, 9, 1);
        x.hour(3);
        CHECK.due("just(60, 0)", x.just(60, 0), 3);
        CHECK.due("just(60, 1)", x.just(60, 1), 5);
        x.cold(5);
        CHECK.due("just(60, 0) in the cold, both 5", x.just(60, 0), 12);
        CHECK.due("just(60, 1) in the cold", x.just(60, 1), 0);
    }

    private static void justNone() {
        GrindMill x = new GrindMill();
        CHECK.due("just(1, -1) of none", x.just(1, -1), GrindMill.NONE);
        CHECK.due("just(1, 0) of none", x.just(1, 0), -10);
        CHECK.due("just(1, -2)", x.just(1, -2), -10);
        CHECK.due("just(0, -1)", x.just(0, -1), -10);
        CHECK.due("just(61, -1)", x.just(61, -1), -10);
        x.goods(0, 7, 1);
        x.goods(5, 7, 1);
        CHECK.due("just(8, -1)", x.just(8, -1), GrindMill.NONE);
        CHECK.due("just(8, 1)", x.just(8, 1), GrindMill.NONE);
        CHECK.due("just(8, 2)", x.just(8, 2), -10);
        CHECK.due("just(56, 0)", x.just(56, 0), 8);
        CHECK.due("just(56, 1)", x.just(56, 1), 0);
        CHECK.due("BAD, of which NONE is none", x.status(0), 5);
    }

    private static void best() {
        GrindMill x = new GrindMill();
        CHECK.due("best(12, -1) of none", x.best(12, -1), 0);
        CHECK.due("best(12, 0) of none", x.best(12, 0), -10);
        x.goods(0, 5, 2);
        x.goods(0, 5, 3);
        x.goods(2, 9, 40);
        CHECK.due("best(0, -1)", x.best(0, -1), 0);
        CHECK.due("best(1, -1)", x.best(1, -1), 15);
        CHECK.due("best(1, 1)", x.best(1, 1), 1);
        // The second hour fetches 10 by either; the first of GOODS has it.
        CHECK.due("best(2, -1)", x.best(2, -1), 25);
        CHECK.due("best(2, 0)", x.best(2, 0), 1);
        CHECK.due("best(5, -1)", x.best(5, -1), 45);
        CHECK.due("best(5, 0)", x.best(5, 0), 2);
        CHECK.due("best(5, 1)", x.best(5, 1), 3);
        // More hours fetch nothing, so the first of GOODS has them all.
        CHECK.due("best(12, -1)", x.best(12, -1), 45);
        CHECK.due("best(12, 0)", x.best(12, 0), 9);
        CHECK.due("best(12, 1)", x.best(12, 1), 3);
        CHECK.due("best(12, 2)", x.best(12, 2), 0);
        CHECK.due("best(-1, -1)", x.best(-1, -1), -10);
        CHECK.due("best(13, -1)", x.best(13, -1), -10);
        CHECK.due("best(0, -2)", x.best(0, -2), -10);
        CHECK.due("best(0, 3)", x.best(0, 3), -10);
        CHECK.due("BAD", x.status(0), 5);
    }

    private static void bestCountsSold() {
        GrindMill x = new GrindMill();
        x.goods(0, 5, 10);
        x.goods(4, 4, 18);
        x.grind(0);
        x.hour(2);
        CHECK.due("best(1, -1): salt is half", x.best(1, -1), 50);
        x.sell(0, 7);
        // 7 are sold: 3 at 9 and 2 at 8 against salt's 5 at 9.
        CHECK.due("best(1, -1) behind a sale", x.best(1, -1), 45);
        CHECK.due("best(1, 1) behind a sale", x.best(1, 1), 1);
        CHECK.due("best(2, -1)", x.best(2, -1), 45 + 43);
        CHECK.due("what lies in the house is not sold with it", x.best(0, -1), 0);
    }

    private static void ship() {
        GrindMill x = new GrindMill();
        x.goods(0, 5, 1);
        x.goods(5, 5, 1);
        x.goods(3, 1, 1);
        CHECK.due("ship(0, 0)", x.ship(0, 0), 1);
        CHECK.due("ship(0, 4)", x.ship(0, 4), 1);
        CHECK.due("ship(0, 5)", x.ship(0, 5), 2);
        CHECK.due("ship(0, 299)", x.ship(0, 299), 60);
        CHECK.due("ship(0, 300)", x.ship(0, 300), GrindMill.NONE);
        CHECK.due("ship(1, 0) of nothing", x.ship(1, 0), GrindMill.NONE);
        CHECK.due("ship(2, 3)", x.ship(2, 3), 3);
        x.hour(3);
        CHECK.due("ship(2, 3) from HOUR 3 on", x.ship(2, 3), 1);
        CHECK.due("ship(-1, 0)", x.ship(-1, 0), GrindMill.BAD);
        CHECK.due("ship(3, 0)", x.ship(3, 0), GrindMill.BAD);
        CHECK.due("ship(0, -1)", x.ship(0, -1), GrindMill.BAD);
        CHECK.due("ship(0, 301)", x.ship(0, 301), GrindMill.BAD);
        CHECK.due("BAD", x.status(0), 4);
    }

    private static void nothingIsChanged() {
        GrindMill x = MillTest.busy();
        long before = x.digest();
        x.then(60, 1);
        x.full();
        x.just(60, 0);
        x.best(12, 0);
        x.ship(0, 300);
        x.words(0);
        x.nextGuess();
        x.street(9, 0);
        x.is(1, 0);
        x.look(1);
        x.mills(77, 60);
        CHECK.due("nothing is changed by what is asked", x.digest(), before);
    }
}
