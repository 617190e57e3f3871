/** Promises 31 to 36: part, image, from, status, count, digest. */
public final class StateTest {
    private static final Check CHECK = new Check("StateTest");

    public static void main(String[] args) {
        part();
        imageAndFrom();
        imagesAreApart();
        imagesKeepWhatMayBeUndone();
        imagesLeaveTextFractionStatus();
        status();
        count();
        digestOfNew();
        digest();
        CHECK.end();
    }

    private static void part() {
        GrindMill x = new GrindMill();
        CHECK.due("part(0)", x.part(0), 0);
        CHECK.due("part(1)", x.part(1), 1);
        CHECK.due("part(-1)", x.part(-1), GrindMill.BAD);
        CHECK.due("part(2)", x.part(2), GrindMill.BAD);
        CHECK.due("BAD", x.status(0), 2);
    }

    private static void imageAndFrom() {
        GrindMill x = MillTest.busy();
        CHECK.due("from(0): none was kept", x.from(0), GrindMill.NO);
        long before = x.digest();
        CHECK.due("image(0)", x.image(0), 1);
        x.mill(3);
        x.goods(5, 5, 5);
        x.word(17);
        x.guess(2, 2);
        CHECK.due("from(0)", x.from(0), 1);
        CHECK.due("all is as it was", x.digest(), before);
        CHECK.due("THE WORD too", x.say(9), 5);
        CHECK.due("from(0) again", x.from(0), 1);
        CHECK.due("all is as it was", x.digest(), before);
        CHECK.due("image(-1)", x.image(-1), GrindMill.BAD);
        CHECK.due("image(2)", x.image(2), GrindMill.BAD);
        CHECK.due("from(-1)", x.from(-1), GrindMill.BAD);
        CHECK.due("from(2)", x.from(2), GrindMill.BAD);
        CHECK.due("BAD", x.status(0), 5);
        CHECK.due("NO", x.status(1), 1);
    }

    private static void imagesAreApart() {
        GrindMill x = new GrindMill();
        x.goods(0, 3, 3);
        x.grind(0);
        x.image(0);
        x.hour(5);
        x.image(1);
        x.hour(5);
        CHECK.due("from(0)", x.from(0), 1);
        CHECK.due("hour", x.count(1), 0);
        x.hour(2);
        CHECK.due("from(1)", x.from(1), 1);
        CHECK.due("hour", x.count(1), 5);
        CHECK.due("bushels", x.count(2), 15);
        CHECK.due("from(0): going on left it as it was", x.from(0), 1);
        CHECK.due("hour", x.count(1), 0);
        x.hour(7);
        CHECK.due("image(0) anew", x.image(0), 1);
        x.hour(7);
        x.from(0);
        CHECK.due("hour", x.count(1), 7);
    }

    private static void imagesKeepWhatMayBeUndone() {
        GrindMill x = new GrindMill();
        x.goods(0, 3, 3);
        x.grind(0);
        x.hour(5);
        x.sell(0, 4);
        x.image(0);
        for (int i = 0; i < 9; i++) {
            x.cold(i);
        }
        x.from(0);
        CHECK.due("three may be undone", x.count(7), 3);
        CHECK.due("undo()", x.undo(), 5);
        CHECK.due("bushels", x.count(2), 15);
        CHECK.due("undo()", x.undo(), 0);
        CHECK.due("undo()", x.undo(), 0);
        CHECK.due("grinds()", x.grinds(), GrindMill.NONE);
        CHECK.due("undo()", x.undo(), GrindMill.NO);
        x.from(0);
        CHECK.due("the image has them still", x.undo(), 5);
    }

    private static void imagesLeaveTextFractionStatus() {
        GrindMill x = new GrindMill();
        x.goods(0, 3, 3);
        x.image(0);
        Check.type(x, "mill");
        x.thieves(0, 1, 5);
        x.mill(-1);
        x.from(0);
        CHECK.due("bytes", x.count(8), 4);
        CHECK.due("above", x.part(0), 3);
        CHECK.due("below", x.part(1), 2);
        CHECK.due("BAD", x.status(0), 1);
    }

    private static void status() {
        GrindMill x = new GrindMill();
        x.undo();
        x.from(1);
        x.grind(7);
        x.just(0, 0);
        x.best(-1, 0);
        x.street(0, 0);
        x.count(10);
        for (int i = 0; i < 8; i++) {
            x.guess(0, 0);
        }
        CHECK.due("BAD", x.status(0), 5);
        CHECK.due("NO", x.status(1), 2);
        CHECK.due("FULL", x.status(2), 2);
        CHECK.due("status(-1)", x.status(-1), -1);
        CHECK.due("status(3)", x.status(3), -1);
        CHECK.due("they count as BAD", x.status(0), 7);
        CHECK.due("they are asked for nothing", x.status(0), 7);
        // Answers below 0 that no promise calls BAD, NO or FULL.
        x.read();
        x.street(1, 0);
        x.full();
        x.grinds();
        x.just(1, -1);
        CHECK.due("BAD", x.status(0), 7);
        CHECK.due("NO", x.status(1), 2);
        CHECK.due("FULL", x.status(2), 2);
    }

    private static void count() {
        GrindMill x = MillTest.busy();
        int[] due = {3, 7, 47, 13, 120, 1, 1, 4, 4, 6};
        for (int what = 0; what < due.length; what++) {
            CHECK.due("count(" + what + ")", x.count(what), due[what]);
        }
        CHECK.due("count(-1)", x.count(-1), GrindMill.BAD);
        CHECK.due("count(10)", x.count(10), GrindMill.BAD);
        CHECK.due("BAD", x.status(0), 3);
    }

    private static void digestOfNew() {
        CHECK.due("digest of a new one", new GrindMill().digest(),
            Check.mixed(0, 0, 0, 0, 0, 0, 0, 0, 0, 0, 60, 0, -1, 0, 1));
    }

    private static void digest() {
        GrindMill x = MillTest.busy();
        // 9 by 7/10 and by 49/100.
        CHECK.due("digest", x.digest(), Check.mixed(3, 7, 47, 13, 120, 1, 1, 4, 4, 6, 50, 9, 0,
            0, 9, 40, 47, 3, 1, 5, 10, 0, 0, 3, 2, 20, 0, 0, 3, 2, 1, 4, 5, 6, 1071, 100));
        CHECK.due("digest again", x.digest(), x.digest());
        CHECK.due("it refuses nothing", x.status(0), 1);
    }
}
