import java.util.Random;

/** All promises: long runs of calls of a fixed seed, each answered by the program as by Model. */
public final class ModelTest {
    private static final Check CHECK = new Check("ModelTest");
    private static final int RUNS = 3000;
    /** Few enough that with all that a step asks an object has no more than 512 calls. */
    private static final int STEPS = 100;

    private final Random random;
    private final GrindMill x = new GrindMill();
    private final Model y = new Model();

    private ModelTest(int seed) {
        random = new Random(seed);
    }

    public static void main(String[] args) {
        for (int run = 0; run < RUNS && CHECK.wrongSoFar() == 0; run++) {
            new ModelTest(run).go("run " + run);
        }
        CHECK.end();
    }

    private void go(String run) {
        // Runs of few goods and many: what is asked differs most where goods are alike.
        int goods = random.nextInt(7);
        due(run, "mill", x.mill(goods * 30), y.mill(goods * 30));
        for (int g = 0; g < goods; g++) {
            addGoods(run);
        }
        for (int i = 0; i < STEPS; i++) {
            step(run + ", call " + i);
            due(run, "digest behind call " + i, x.digest(), y.digest());
        }
        for (int what = 0; what < 3; what++) {
            due(run, "status " + what, x.status(what), y.status(what));
        }
    }

    private void due(String run, String call, long got, long want) {
        CHECK.due(run + ": " + call, got, want);
    }

    /** A number of low .. high, at times one beyond it, seldom one far off. */
    private int number(int low, int high) {
        int way = random.nextInt(60);
        if (way == 0) {
            return low - 1;
        }
        if (way == 1) {
            return high + 1;
        }
        if (way == 2) {
            return random.nextInt(4) == 0 ? random.nextInt() : low;
        }
        return way == 3 ? high : low + random.nextInt(high - low + 1);
    }

    private int someGoods() {
        return number(0, Math.max(0, x.count(0) - 1));
    }

    /** GOODS, or none, that are asked for. */
    private int asked() {
        return random.nextInt(3) == 0 ? -1 : someGoods();
    }

    private void addGoods(String run) {
        int kind = number(0, 5);
        int rate = random.nextBoolean() ? number(1, 9) : number(1, 3);
        int price = random.nextBoolean() ? number(0, 40) : number(0, 4);
        due(run, "goods(" + kind + ", " + rate + ", " + price + ")", x.goods(kind, rate, price), y.goods(kind, rate, price));
    }

    private void step(String run) {
        int a;
        int b;
        int c;
        int d;
        switch (random.nextInt(46)) {
            case 0:
                if (random.nextInt(10) == 0) {
                    a = number(0, 200);
                    due(run, "mill(" + a + ")", x.mill(a), y.mill(a));
                }
                break;
            case 1: addGoods(run); break;
            case 2: a = number(0, 31); due(run, "word(" + a + ")", x.word(a), y.word(a)); break;
            case 3: a = number(0, 127); due(run, "type(" + a + ")", x.type(a), y.type(a)); break;
            case 4: due(run, "clear", x.clear(), y.clear()); break;
            case 5: if (random.nextInt(4) == 0) readText(run); break;
            case 6: case 7: case 8: a = someGoods(); due(run, "grind(" + a + ")", x.grind(a), y.grind(a)); break;
            case 9: case 10: case 11: a = random.nextBoolean() ? number(1, 60) : number(1, 5); due(run, "hour(" + a + ")", x.hour(a), y.hour(a)); break;
            case 12: a = number(0, 31); due(run, "say(" + a + ")", x.say(a), y.say(a)); break;
            case 13: case 14: case 15:
                a = someGoods();
                b = random.nextInt(5) == 0 ? number(1, 200) : number(1, 12);
                due(run, "sell(" + a + ", " + b + ")", x.sell(a, b), y.sell(a, b));
                break;
            case 16: a = number(0, 9); due(run, "cold(" + a + ")", x.cold(a), y.cold(a)); break;
            case 17: case 18: due(run, "undo", x.undo(), y.undo()); break;
            case 19: a = someGoods(); b = number(0, 6); due(run, "of(" + a + ", " + b + ")", x.of(a, b), y.of(a, b)); break;
            case 20: due(run, "grinds", x.grinds(), y.grinds()); break;
            case 21: a = number(0, 60); b = number(0, 1); due(run, "then(" + a + ", " + b + ")", x.then(a, b), y.then(a, b)); break;
            case 22: due(run, "full", x.full(), y.full()); break;
            case 23: case 24: a = number(1, 60); b = asked(); due(run, "just(" + a + ", " + b + ")", x.just(a, b), y.just(a, b)); break;
            case 25: case 26: a = random.nextInt(8) == 0 ? number(0, 12) : number(0, 6); b = asked(); due(run, "best(" + a + ", " + b + ")", x.best(a, b), y.best(a, b)); break;
            case 27: a = someGoods(); b = number(0, 300); due(run, "ship(" + a + ", " + b + ")", x.ship(a, b), y.ship(a, b)); break;
            case 28: a = number(0, 31); b = random.nextBoolean() ? number(2, 3) : number(0, 5); due(run, "guess(" + a + ", " + b + ")", x.guess(a, b), y.guess(a, b)); break;
            case 29: a = number(0, 1); due(run, "words(" + a + ")", x.words(a), y.words(a)); break;
            case 30: due(run, "nextGuess", x.nextGuess(), y.nextGuess()); break;
            case 31: case 32: a = number(1, 9); b = random.nextBoolean() ? -1 : number(0, 6); due(run, "street(" + a + ", " + b + ")", x.street(a, b), y.street(a, b)); break;
            case 33: case 34:
                a = someGoods();
                b = number(0, 99);
                c = number(0, 9);
                d = likely(a, b, c);
                due(run, "note(" + a + ", " + b + ", " + c + ", " + d + ")", x.note(a, b, c, d), y.note(a, b, c, d));
                break;
            case 35: a = number(0, 1); due(run, "forget(" + a + ")", x.forget(a), y.forget(a)); break;
            case 36: a = someGoods(); b = number(0, 1); due(run, "is(" + a + ", " + b + ")", x.is(a, b), y.is(a, b)); break;
            case 37: a = someGoods(); due(run, "look(" + a + ")", x.look(a), y.look(a)); break;
            case 38: a = someGoods(); b = number(0, 9); c = number(0, 10); due(run, "thieves(" + a + ", " + b + ", " + c + ")", x.thieves(a, b, c), y.thieves(a, b, c)); break;
            case 39: a = number(0, 999999); b = number(0, 60); due(run, "mills(" + a + ", " + b + ")", x.mills(a, b), y.mills(a, b)); break;
            case 40: a = number(0, 1); due(run, "part(" + a + ")", x.part(a), y.part(a)); break;
            case 41: a = number(0, 1); due(run, "image(" + a + ")", x.image(a), y.image(a)); break;
            case 42: a = number(0, 1); due(run, "from(" + a + ")", x.from(a), y.from(a)); break;
            case 43: a = number(0, 2); due(run, "status(" + a + ")", x.status(a), y.status(a)); break;
            default: a = number(0, 9); due(run, "count(" + a + ")", x.count(a), y.count(a)); break;
        }
    }

    /** Mostly what one of the kinds would grind, so that notes leave some kinds. */
    private int likely(int g, int h, int c) {
        boolean asGoods = g >= 0 && g < x.count(0) && h >= 0 && c >= 0;
        if (!asGoods || random.nextInt(8) == 0) {
            return number(0, 20);
        }
        int kind = random.nextInt(3) == 0 ? random.nextInt(6) : x.of(g, 0);
        return Model.ground(kind, x.of(g, 1), h, c);
    }

    private void readText(String run) {
        String text = someText();
        due(run, "clear", x.clear(), y.clear());
        for (int i = 0; i < text.length(); i++) {
            due(run, "type", x.type(text.charAt(i)), y.type(text.charAt(i)));
        }
        due(run, "read of '" + text + "'", x.read(), y.read());
    }

    private String someText() {
        StringBuilder text = new StringBuilder();
        int items = 1 + random.nextInt(9);
        int goods = 0;
        for (int i = 0; i < items; i++) {
            int kind = i == 0 ? 0 : 1 + random.nextInt(6);
            switch (random.nextInt(40) == 0 ? random.nextInt(6) : kind) {
                case 0: text.append("mill ").append(figures(0, 99)); break;
                case 1: text.append("grind ").append(figures(0, Math.max(0, goods - 1))); break;
                case 2: text.append("word").append(blanks()).append(figures(0, 31)); break;
                case 3: text.append("cold ").append(figures(0, 9)); break;
                default:
                    goods++;
                    text.append("goods ").append(figures(0, 5)).append(' ').append(blanks());
                    text.append(figures(1, 9)).append(' ').append(figures(0, 40));
                    break;
            }
            text.append(blanks()).append(';').append(blanks());
        }
        if (random.nextInt(3) == 0) {
            spoil(text);
        }
        return text.substring(0, Math.min(150, text.length()));
    }

    private String blanks() {
        return " ".repeat(Math.max(0, random.nextInt(6) - 3));
    }

    private String figures(int low, int high) {
        int number = Math.max(0, Math.min(1000, number(low, high)));
        return random.nextInt(8) == 0 ? "0" + number : "" + number;
    }

    private void spoil(StringBuilder text) {
        int at = random.nextInt(text.length());
        switch (random.nextInt(4)) {
            case 0: text.setLength(at); break;
            case 1: text.deleteCharAt(at); break;
            case 2: text.insert(at, "; 7amillgoods-A\t\n".charAt(random.nextInt(17))); break;
            default: text.setCharAt(at, (char) random.nextInt(128)); break;
        }
    }
}
