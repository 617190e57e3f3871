/** A hand mill in a house: what it grinds, spills and sells, and what may be asked of it. */
public final class GrindMill {
    public static final int NONE = -1, BAD = -2, NO = -3, FULL = -4;

    /** BAD where NONE or a pair may be the answer; a FAULT is counted down from it, too. */
    private static final int BAD_APART = -10;
    private static final int NOT_SO_MANY = -5;

    private static final int KINDS = 6;
    private static final int MOST_GOODS = 6;
    private static final int MOST_RATE = 9;
    private static final int MOST_PRICE = 40;
    private static final int MOST_HELD = 200;
    private static final int FIRST_HELD = 60;
    private static final int MOST_COLD = 9;
    private static final int LETTERS = 5;
    private static final int WORDS = 32;
    private static final int MOST_HOURS = 60;
    private static final int MOST_JUST = 60;
    private static final int MOST_BEST = 12;
    private static final int IMAGES = 2;

    private final House[] images;
    private final boolean[] kept;
    private final Text text;
    private final Plans plans;
    private final int[] refused;
    private House now;
    /** A text is read in here, so that a FAULT leaves the house of now as it is. */
    private House spare;
    private long above;
    private long below;

    public GrindMill() {
        Plain[] kinds = {new Plain(), new Slow(), new Peace(), new Mills(), new Salt(), new Nothing()};
        now = new House(kinds);
        spare = new House(kinds);
        images = new House[] {new House(kinds), new House(kinds)};
        kept = new boolean[IMAGES];
        text = new Text();
        plans = new Plans();
        refused = new int[3];
        above = 0;
        below = 1;
    }

    // ---- a mill

    public int mill(int h) {
        if (!within(h, 0, MOST_HELD)) {
            return refuse(BAD);
        }
        int before = now.goodsCount;
        now.startAnew(h);
        return before;
    }

    public int goods(int kind, int rate, int price) {
        if (!within(kind, 0, KINDS - 1) || !within(rate, 1, MOST_RATE) || !within(price, 0, MOST_PRICE)) {
            return refuse(BAD);
        }
        if (now.goodsCount >= MOST_GOODS) {
            return refuse(FULL);
        }
        now.addGoods(kind, rate, price);
        return now.goodsCount - 1;
    }

    public int word(int w) {
        if (!isWord(w)) {
            return refuse(BAD);
        }
        now.word = w;
        return 1;
    }

    public int type(int c) {
        if (!within(c, 0, 127)) {
            return refuse(BAD);
        }
        if (text.length >= Text.LIMIT) {
            return refuse(FULL);
        }
        text.append(c);
        return text.length;
    }

    public int clear() {
        int before = text.length;
        text.length = 0;
        return before;
    }

    public int read() {
        int items = text.readInto(spare);
        if (text.fault != NONE) {
            return BAD_APART - text.fault;
        }
        House old = now;
        now = spare;
        spare = old;
        return items;
    }

    // ---- hours

    public int grind(int g) {
        if (!now.has(g)) {
            return refuseApart();
        }
        now.remember();
        int before = now.grinding;
        now.grinding = g;
        return before;
    }

    public int hour(int n) {
        if (!within(n, 1, MOST_HOURS)) {
            return refuse(BAD);
        }
        now.remember();
        int ground = 0;
        for (int i = 0; i < n; i++) {
            ground += now.passHour();
        }
        return ground;
    }

    public int say(int w) {
        if (!isWord(w)) {
            return refuse(BAD);
        }
        now.remember();
        int answer = likeLetters(w, now.word);
        if (answer == LETTERS) {
            now.grinding = NONE;
        }
        return answer;
    }

    public int sell(int g, int n) {
        if (!now.has(g) || !within(n, 1, MOST_HELD)) {
            return refuse(BAD);
        }
        if (now.goods[g].bushels < n) {
            return refuse(NO);
        }
        now.remember();
        int fetched = now.goods[g].giveAway(n);
        now.money += fetched;
        return fetched;
    }

    public int cold(int c) {
        if (!within(c, 0, MOST_COLD)) {
            return refuse(BAD);
        }
        now.remember();
        int before = now.cold;
        now.cold = c;
        return before;
    }

    public int undo() {
        if (now.pastCount <= 0) {
            return refuse(NO);
        }
        now.goBack();
        return now.hour;
    }

    public int of(int g, int what) {
        if (!now.has(g) || !within(what, 0, 6)) {
            return refuse(BAD);
        }
        Goods goods = now.goods[g];
        switch (what) {
            case 0: return goods.kind;
            case 1: return goods.rate;
            case 2: return goods.price;
            case 3: return goods.bushels;
            case 4: return goods.sold;
            case 5: return goods.groundIn(now.hour, now.cold);
            default: return goods.fetchesWhen(goods.sold);
        }
    }

    public int grinds() {
        return now.grinding;
    }

    // ---- what comes

    public int then(int m, int what) {
        if (!within(m, 0, MOST_HOURS) || !within(what, 0, 1)) {
            return refuse(BAD);
        }
        int ground = now.groundWithin(now.grinding, m);
        int lying = now.allBushels();
        int stays = Math.min(ground, now.held - lying);
        return what == 0 ? lying + stays : now.spilled + ground - stays;
    }

    public int full() {
        int lying = now.allBushels();
        for (int m = 0; m <= MOST_HOURS; m++) {
            if (lying >= now.held) {
                return m;
            }
            lying += now.groundBy(now.grinding, now.hour + m);
        }
        return NONE;
    }

    public int just(int n, int i) {
        if (!within(n, 1, MOST_JUST) || !(i == NONE || now.has(i))) {
            return refuseApart();
        }
        int hours = plans.fewestHours(now, n);
        return hours == NONE || i == NONE ? hours : plans.way[i];
    }

    public int best(int n, int i) {
        if (!within(n, 0, MOST_BEST) || !(i == NONE || now.has(i))) {
            return refuseApart();
        }
        int money = plans.mostMoney(now, n);
        return i == NONE ? money : plans.way[i];
    }

    public int ship(int g, int n) {
        if (!now.has(g) || !within(n, 0, 300)) {
            return refuse(BAD);
        }
        int load = 0;
        for (int m = 1; m <= MOST_HOURS; m++) {
            load += now.groundBy(g, now.hour + m - 1);
            if (load > n) {
                return m;
            }
        }
        return NONE;
    }

    // ---- the word

    public int guess(int w, int a) {
        if (!isWord(w) || !within(a, 0, LETTERS)) {
            return refuse(BAD);
        }
        if (now.clues.guessCount >= Clues.LIMIT) {
            return refuse(FULL);
        }
        now.clues.addGuess(w, a);
        return now.clues.guessCount;
    }

    public int words(int what) {
        if (!within(what, 0, 1)) {
            return refuse(BAD);
        }
        int fitting = now.clues.fittingWords();
        return what == 0 ? Integer.bitCount(fitting) : leastIn(fitting);
    }

    public int nextGuess() {
        return now.clues.sharpestWord();
    }

    public int street(int n, int k) {
        if (!within(n, 1, 9) || k < NONE) {
            return refuseApart();
        }
        return plans.restingPairs(now, n, k);
    }

    // ---- what came out

    public int note(int g, int h, int c, int b) {
        if (!now.has(g) || !within(h, 0, 99) || !within(c, 0, MOST_COLD) || !within(b, 0, 20)) {
            return refuse(BAD);
        }
        if (now.clues.noteCount >= Clues.LIMIT) {
            return refuse(FULL);
        }
        now.clues.addNote(g, h, c, b);
        return now.clues.noteCount;
    }

    public int forget(int what) {
        if (!within(what, 0, 1)) {
            return refuse(BAD);
        }
        int before = what == 0 ? now.clues.guessCount : now.clues.noteCount;
        if (what == 0) {
            now.clues.guessCount = 0;
        } else {
            now.clues.noteCount = 0;
        }
        return before;
    }

    public int is(int g, int what) {
        if (!now.has(g) || !within(what, 0, 1)) {
            return refuse(BAD);
        }
        Goods goods = now.goods[g];
        return what == 0 ? now.clues.fittingKinds(g, goods.rate) : now.clues.fittingRates(g, goods.kind);
    }

    public int look(int g) {
        if (!now.has(g)) {
            return refuse(BAD);
        }
        return now.clues.sharpestLook(g, now.goods[g].rate);
    }

    public int thieves(int g, int n, int c) {
        if (!now.has(g) || !within(n, 0, 9) || !within(c, 0, 10)) {
            return refuse(BAD);
        }
        long sum = 0;
        long left = 1;
        long scale = 1;
        for (int i = 0; i < n; i++) {
            left *= 10 - c;
            scale *= 10;
            sum = sum * 10 + left * now.groundBy(g, now.hour + i);
        }
        long divisor = Math.max(1, greatestDivisor(sum, scale));
        above = sum / divisor;
        below = scale / divisor;
        return 1;
    }

    public int mills(int seed, int n) {
        if (!within(seed, 0, 999999) || !within(n, 0, MOST_HOURS)) {
            return refuse(BAD);
        }
        // What is ground either lies or is spilled, so H is of no weight for both together.
        int together = now.allBushels() + now.spilled;
        long x = seed;
        for (int i = 0; i < n; i++) {
            x = (x * 1103515245L + 12345L) % 2147483648L;
            together += now.groundBy((int) (x / 65536 % 8), now.hour + i);
        }
        return together;
    }

    // ---- what there is

    public long part(int what) {
        if (!within(what, 0, 1)) {
            return refuse(BAD);
        }
        return what == 0 ? above : below;
    }

    public int image(int i) {
        if (!within(i, 0, IMAGES - 1)) {
            return refuse(BAD);
        }
        images[i].copyFrom(now);
        kept[i] = true;
        return 1;
    }

    public int from(int i) {
        if (!within(i, 0, IMAGES - 1)) {
            return refuse(BAD);
        }
        if (!kept[i]) {
            return refuse(NO);
        }
        now.copyFrom(images[i]);
        return 1;
    }

    public int status(int what) {
        if (!within(what, 0, 2)) {
            refuse(BAD);
            return -1;
        }
        return refused[what];
    }

    public int count(int what) {
        return within(what, 0, 9) ? amountOf(what) : refuse(BAD);
    }

    public long digest() {
        long h = 1231;
        for (int what = 0; what <= 9; what++) {
            h = 31 * h + amountOf(what);
        }
        h = now.mixInto(h);
        h = 31 * h + above;
        return 31 * h + below;
    }

    private int amountOf(int what) {
        switch (what) {
            case 0: return now.goodsCount;
            case 1: return now.hour;
            case 2: return now.allBushels();
            case 3: return now.spilled;
            case 4: return now.money;
            case 5: return now.clues.guessCount;
            case 6: return now.clues.noteCount;
            case 7: return now.pastCount;
            case 8: return text.length;
            default: return now.cold;
        }
    }

    /** Counts a refused call by its reason and gives the reason back as its answer. */
    private int refuse(int reason) {
        int place = BAD - reason;
        if (within(place, 0, refused.length - 1)) {
            refused[place]++;
        }
        return reason;
    }

    private int refuseApart() {
        refuse(BAD);
        return BAD_APART;
    }

    private static boolean within(int number, int least, int most) {
        return number >= least && number <= most;
    }

    private static boolean isWord(int w) {
        return within(w, 0, WORDS - 1);
    }

    private static int likeLetters(int word, int other) {
        return LETTERS - Integer.bitCount(word ^ other);
    }

    private static int leastIn(int bits) {
        for (int bit = 0; bit < WORDS; bit++) {
            if ((bits >>> bit & 1) == 1) {
                return bit;
            }
        }
        return NONE;
    }

    /** The bound of 200 steps is above what Euclid's way takes for any two longs (some 90). */
    private static long greatestDivisor(long a, long b) {
        long larger = a;
        long smaller = b;
        for (int step = 0; step < 200 && smaller != 0; step++) {
            long rest = larger % smaller;
            larger = smaller;
            smaller = rest;
        }
        return larger;
    }

    /** PLAIN. Each kind further down says only in what it differs from the one that it is under. */
    private static class Plain {
        int ground(int rate, int hour, int cold) {
            return rate;
        }

        int fetches(int price, int sold) {
            int left = price - sold / 5;
            return left > 0 ? left : 0;
        }
    }

    private static class Slow extends Plain {
        int ground(int rate, int hour, int cold) {
            int plain = super.ground(rate, hour, cold);
            return cold >= 5 ? (plain + 1) / 2 : plain;
        }
    }

    private static class Peace extends Plain {
        int fetches(int price, int sold) {
            return 0;
        }
    }

    private static final class Mills extends Plain {
        int ground(int rate, int hour, int cold) {
            return super.ground(rate, hour, cold) + hour % 4;
        }
    }

    private static final class Salt extends Slow {
        int ground(int rate, int hour, int cold) {
            return super.ground(rate, hour, cold) + 1;
        }

        int fetches(int price, int sold) {
            return super.fetches(price, sold) / 2;
        }
    }

    private static final class Nothing extends Peace {
        int ground(int rate, int hour, int cold) {
            return 0;
        }

        int fetches(int price, int sold) {
            return super.fetches(price, sold) + 1;
        }
    }

    /** One of GOODS; its kind is a place in the row of all kinds. */
    private static final class Goods {
        private final Plain[] kinds;
        int kind;
        int rate;
        int price;
        int bushels;
        int sold;

        Goods(Plain[] kinds) {
            this.kinds = kinds;
        }

        void become(int kind, int rate, int price) {
            this.kind = kind;
            this.rate = rate;
            this.price = price;
            bushels = 0;
            sold = 0;
        }

        void copyFrom(Goods other) {
            become(other.kind, other.rate, other.price);
            bushels = other.bushels;
            sold = other.sold;
        }

        int groundIn(int hour, int cold) {
            return kinds[kind].ground(rate, hour, cold);
        }

        int fetchesWhen(int ahead) {
            return kinds[kind].fetches(price, ahead);
        }

        /** What n bushels fetch one by one, as many being sold ahead of them as told. */
        int fetchedBy(int n, int ahead) {
            int fetched = 0;
            for (int i = 0; i < n; i++) {
                fetched += fetchesWhen(ahead + i);
            }
            return fetched;
        }

        int giveAway(int n) {
            int fetched = fetchedBy(n, sold);
            bushels -= n;
            sold += n;
            return fetched;
        }

        long mixInto(long h) {
            long mixed = 31 * h + kind;
            mixed = 31 * mixed + rate;
            mixed = 31 * mixed + price;
            mixed = 31 * mixed + bushels;
            return 31 * mixed + sold;
        }
    }

    /** All that an image keeps. */
    private static final class House {
        private static final int MOST_PAST = 8;
        /** SPILLED, MONEY, the HOUR, what is ground, COLD; of each of GOODS BUSHELS and SOLD. */
        private static final int PAST_NUMBERS = 5 + 2 * MOST_GOODS;

        final Goods[] goods = new Goods[MOST_GOODS];
        final Clues clues;
        private final int[] past = new int[MOST_PAST * PAST_NUMBERS];
        int pastCount;
        int goodsCount;
        int held;
        int word;
        int grinding;
        int cold;
        int hour;
        int spilled;
        int money;

        House(Plain[] kinds) {
            clues = new Clues(kinds);
            for (int g = 0; g < MOST_GOODS; g++) {
                goods[g] = new Goods(kinds);
            }
            startAnew(FIRST_HELD);
        }

        void startAnew(int h) {
            held = h;
            word = 0;
            grinding = NONE;
            cold = 0;
            hour = 0;
            spilled = 0;
            money = 0;
            goodsCount = 0;
            pastCount = 0;
            clues.guessCount = 0;
            clues.noteCount = 0;
        }

        void copyFrom(House other) {
            held = other.held;
            word = other.word;
            grinding = other.grinding;
            cold = other.cold;
            hour = other.hour;
            spilled = other.spilled;
            money = other.money;
            goodsCount = other.goodsCount;
            for (int g = 0; g < goodsCount; g++) {
                goods[g].copyFrom(other.goods[g]);
            }
            pastCount = other.pastCount;
            System.arraycopy(other.past, 0, past, 0, MOST_PAST * PAST_NUMBERS);
            clues.copyFrom(other.clues);
        }

        boolean has(int g) {
            return g >= 0 && g < goodsCount;
        }

        void addGoods(int kind, int rate, int price) {
            if (goodsCount >= MOST_GOODS) {
                return;
            }
            goods[goodsCount].become(kind, rate, price);
            goodsCount++;
            pastCount = 0;
        }

        int allBushels() {
            int all = 0;
            for (int g = 0; g < goodsCount; g++) {
                all += goods[g].bushels;
            }
            return all;
        }

        /** GOODS that are not there, NONE too, are nothing ground. */
        int groundBy(int g, int atHour) {
            return has(g) ? goods[g].groundIn(atHour, cold) : 0;
        }

        int groundWithin(int g, int hours) {
            int ground = 0;
            for (int i = 0; i < hours; i++) {
                ground += groundBy(g, hour + i);
            }
            return ground;
        }

        int passHour() {
            int ground = groundBy(grinding, hour);
            int stays = Math.min(ground, held - allBushels());
            if (has(grinding)) {
                goods[grinding].bushels += stays;
            }
            spilled += ground - stays;
            hour++;
            return ground;
        }

        /** Keeps what undo brings back; of a full past the oldest is lost. */
        void remember() {
            if (pastCount >= MOST_PAST) {
                System.arraycopy(past, PAST_NUMBERS, past, 0, (MOST_PAST - 1) * PAST_NUMBERS);
                pastCount = MOST_PAST - 1;
            }
            int at = pastCount * PAST_NUMBERS;
            past[at] = spilled;
            past[at + 1] = money;
            past[at + 2] = hour;
            past[at + 3] = grinding;
            past[at + 4] = cold;
            for (int g = 0; g < goodsCount; g++) {
                past[at + 5 + 2 * g] = goods[g].bushels;
                past[at + 6 + 2 * g] = goods[g].sold;
            }
            pastCount++;
        }

        void goBack() {
            if (pastCount <= 0) {
                return;
            }
            pastCount--;
            int at = pastCount * PAST_NUMBERS;
            spilled = past[at];
            money = past[at + 1];
            hour = past[at + 2];
            grinding = past[at + 3];
            cold = past[at + 4];
            for (int g = 0; g < goodsCount; g++) {
                goods[g].bushels = past[at + 5 + 2 * g];
                goods[g].sold = past[at + 6 + 2 * g];
            }
        }

        long mixInto(long h) {
            long mixed = 31 * h + held;
            mixed = 31 * mixed + word;
            mixed = 31 * mixed + grinding;
            for (int g = 0; g < goodsCount; g++) {
                mixed = goods[g].mixInto(mixed);
            }
            return clues.mixInto(mixed);
        }
    }

    /** GUESSES and NOTES, and what fits them. */
    private static final class Clues {
        static final int LIMIT = 6;
        /** A NOTE: GOODS, HOUR, COLD, BUSHELS. */
        private static final int NOTE_NUMBERS = 4;
        /** MILLS alone look at the HOUR, by 4 left over. */
        private static final int LOOK_HOURS = 4;

        private final Plain[] kinds;
        private final int[] guessed = new int[LIMIT];
        private final int[] answers = new int[LIMIT];
        private final int[] notes = new int[LIMIT * NOTE_NUMBERS];
        /** Rows to work in: how many words are answered alike, by answer; what each kind grinds. */
        private final int[] alike = new int[LETTERS + 1];
        private final int[] yields = new int[KINDS];
        int guessCount;
        int noteCount;

        Clues(Plain[] kinds) {
            this.kinds = kinds;
        }

        void copyFrom(Clues other) {
            guessCount = other.guessCount;
            noteCount = other.noteCount;
            System.arraycopy(other.guessed, 0, guessed, 0, LIMIT);
            System.arraycopy(other.answers, 0, answers, 0, LIMIT);
            System.arraycopy(other.notes, 0, notes, 0, LIMIT * NOTE_NUMBERS);
        }

        void addGuess(int w, int a) {
            if (guessCount >= LIMIT) {
                return;
            }
            guessed[guessCount] = w;
            answers[guessCount] = a;
            guessCount++;
        }

        void addNote(int g, int h, int c, int b) {
            if (noteCount >= LIMIT) {
                return;
            }
            int at = noteCount * NOTE_NUMBERS;
            notes[at] = g;
            notes[at + 1] = h;
            notes[at + 2] = c;
            notes[at + 3] = b;
            noteCount++;
        }

        private boolean wordFits(int w) {
            for (int i = 0; i < guessCount; i++) {
                if (likeLetters(w, guessed[i]) != answers[i]) {
                    return false;
                }
            }
            return true;
        }

        /** A bit for each of the 32 words that fit all GUESSES. */
        int fittingWords() {
            int bits = 0;
            for (int w = 0; w < WORDS; w++) {
                if (wordFits(w)) {
                    bits |= 1 << w;
                }
            }
            return bits;
        }

        int sharpestWord() {
            int fitting = fittingWords();
            if (fitting == 0) {
                return NONE;
            }
            int sharpest = NONE;
            int fewest = WORDS + 1;
            for (int w = 0; w < WORDS; w++) {
                int most = mostAnsweredAlike(w, fitting);
                if (most < fewest) {
                    fewest = most;
                    sharpest = w;
                }
            }
            return sharpest;
        }

        private int mostAnsweredAlike(int w, int fitting) {
            for (int a = 0; a <= LETTERS; a++) {
                alike[a] = 0;
            }
            int most = 0;
            for (int other = 0; other < WORDS; other++) {
                if ((fitting >>> other & 1) == 1) {
                    int answer = likeLetters(w, other);
                    alike[answer]++;
                    most = Math.max(most, alike[answer]);
                }
            }
            return most;
        }

        private boolean notesFit(int g, int kind, int rate) {
            for (int i = 0; i < noteCount; i++) {
                int at = i * NOTE_NUMBERS;
                if (notes[at] == g && kinds[kind].ground(rate, notes[at + 1], notes[at + 2]) != notes[at + 3]) {
                    return false;
                }
            }
            return true;
        }

        int fittingKinds(int g, int rate) {
            int bits = 0;
            for (int kind = 0; kind < KINDS; kind++) {
                if (notesFit(g, kind, rate)) {
                    bits |= 1 << kind;
                }
            }
            return bits;
        }

        int fittingRates(int g, int kind) {
            int rates = 0;
            for (int rate = 1; rate <= MOST_RATE; rate++) {
                if (notesFit(g, kind, rate)) {
                    rates++;
                }
            }
            return rates;
        }

        int sharpestLook(int g, int rate) {
            int fitting = fittingKinds(g, rate);
            if (fitting == 0) {
                return NONE;
            }
            int sharpest = NONE;
            int fewest = KINDS + 1;
            for (int c = 0; c <= MOST_COLD; c++) {
                for (int h = 0; h < LOOK_HOURS; h++) {
                    int most = mostGroundAlike(rate, h, c, fitting);
                    if (most < fewest) {
                        fewest = most;
                        sharpest = 10 * c + h;
                    }
                }
            }
            return sharpest;
        }

        private int mostGroundAlike(int rate, int h, int c, int fitting) {
            int most = 0;
            for (int kind = 0; kind < KINDS; kind++) {
                yields[kind] = kinds[kind].ground(rate, h, c);
                most = Math.max(most, fittingLike(kind, fitting));
            }
            return most;
        }

        /** Of the fitting kinds up to this one, how many grind what it does. */
        private int fittingLike(int kind, int fitting) {
            int like = 0;
            for (int other = 0; other <= kind; other++) {
                if ((fitting >>> other & 1) == 1 && yields[other] == yields[kind]) {
                    like++;
                }
            }
            return like;
        }

        long mixInto(long h) {
            long mixed = h;
            for (int i = 0; i < guessCount; i++) {
                mixed = 31 * mixed + guessed[i];
                mixed = 31 * mixed + answers[i];
            }
            for (int i = 0; i < noteCount * NOTE_NUMBERS; i++) {
                mixed = 31 * mixed + notes[i];
            }
            return mixed;
        }
    }

    /** What is best ground, alone or in a street; its rows are made once and used for every call. */
    private static final class Plans {
        /** More HOURS than any way has. */
        private static final int NEVER = 1000;

        /** HOURS of each of GOODS in the first way that was asked for last. */
        final int[] way = new int[MOST_GOODS];
        /** What each of GOODS grinds in HOUR 0 at this COLD. */
        private final int[] yields = new int[MOST_GOODS];
        private final int[] fewest = new int[MOST_JUST + 1];
        private final int[][] gains = new int[MOST_GOODS][MOST_BEST + 1];
        private final int[][] most = new int[MOST_GOODS + 1][MOST_BEST + 1];
        private final int[] alone = new int[MOST_GOODS];
        private final int[] firstOfTwo = new int[MOST_GOODS];
        private final int[] secondOfTwo = new int[MOST_GOODS];

        int fewestHours(House house, int n) {
            fillYields(house);
            fillFewest(house.goodsCount, n);
            if (fewest[n] >= NEVER) {
                return NONE;
            }
            // Each part of a fewest way is a fewest way itself, so taking the first GOODS
            // as long as the rest stays fewest takes the most of them.
            int left = n;
            for (int g = 0; g < house.goodsCount; g++) {
                way[g] = 0;
                for (int i = 0; i < n && staysFewest(left, yields[g]); i++) {
                    way[g]++;
                    left -= yields[g];
                }
            }
            return fewest[n];
        }

        private void fillYields(House house) {
            for (int g = 0; g < house.goodsCount; g++) {
                yields[g] = house.goods[g].groundIn(0, house.cold);
            }
        }

        private void fillFewest(int goodsCount, int n) {
            fewest[0] = 0;
            for (int bushels = 1; bushels <= n; bushels++) {
                fewest[bushels] = NEVER;
                for (int g = 0; g < goodsCount; g++) {
                    if (yields[g] > 0 && yields[g] <= bushels) {
                        fewest[bushels] = Math.min(fewest[bushels], fewest[bushels - yields[g]] + 1);
                    }
                }
            }
        }

        private boolean staysFewest(int left, int ground) {
            return ground > 0 && ground <= left && fewest[left - ground] == fewest[left] - 1;
        }

        int mostMoney(House house, int n) {
            fillYields(house);
            fillGains(house, n);
            fillMost(house.goodsCount, n);
            int left = n;
            for (int g = 0; g < house.goodsCount; g++) {
                way[g] = 0;
                for (int hours = left; hours > 0; hours--) {
                    if (gains[g][hours] + most[g + 1][left - hours] == most[g][left]) {
                        way[g] = hours;
                        break;
                    }
                }
                left -= way[g];
            }
            return most[0][n];
        }

        /** most[g][m]: the most money by m HOURS of GOODS g and those behind them. */
        private void fillMost(int goodsCount, int n) {
            for (int m = 0; m <= n; m++) {
                most[goodsCount][m] = 0;
            }
            for (int g = goodsCount - 1; g >= 0; g--) {
                for (int m = 0; m <= n; m++) {
                    most[g][m] = 0;
                    for (int hours = 0; hours <= m; hours++) {
                        most[g][m] = Math.max(most[g][m], gains[g][hours] + most[g + 1][m - hours]);
                    }
                }
            }
        }

        private void fillGains(House house, int n) {
            for (int g = 0; g < house.goodsCount; g++) {
                Goods goods = house.goods[g];
                gains[g][0] = 0;
                for (int hours = 1; hours <= n; hours++) {
                    int ahead = goods.sold + (hours - 1) * yields[g];
                    gains[g][hours] = gains[g][hours - 1] + goods.fetchedBy(yields[g], ahead);
                }
            }
        }

        int restingPairs(House house, int n, int k) {
            fillYields(house);
            fillStreet(house, n);
            int found = 0;
            for (int i = 0; i < house.goodsCount; i++) {
                for (int j = 0; j < house.goodsCount; j++) {
                    if (!pairRests(i, j, house.goodsCount)) {
                        continue;
                    }
                    if (found == k) {
                        return 6 * i + j;
                    }
                    found++;
                }
            }
            return k == NONE ? found : NOT_SO_MANY;
        }

        /** Other GOODS have a SOLD of their own, so turns weigh only where both grind the same. */
        private void fillStreet(House house, int n) {
            for (int g = 0; g < house.goodsCount; g++) {
                Goods goods = house.goods[g];
                int ground = n * yields[g];
                alone[g] = goods.fetchedBy(ground, goods.sold);
                firstOfTwo[g] = 0;
                secondOfTwo[g] = 0;
                for (int turn = 0; turn < ground; turn++) {
                    int ahead = goods.sold + 2 * turn;
                    firstOfTwo[g] += goods.fetchesWhen(ahead);
                    secondOfTwo[g] += goods.fetchesWhen(ahead + 1);
                }
            }
        }

        private boolean pairRests(int i, int j, int goodsCount) {
            for (int other = 0; other < goodsCount; other++) {
                if (firstHas(other, j) > firstHas(i, j) || secondHas(i, other) > secondHas(i, j)) {
                    return false;
                }
            }
            return true;
        }

        private int firstHas(int i, int j) {
            return i == j ? firstOfTwo[i] : alone[i];
        }

        private int secondHas(int i, int j) {
            return i == j ? secondOfTwo[j] : alone[j];
        }
    }

    /** THE TEXT and how it is read: the first fault stays, and whatever is read behind it is void. */
    private static final class Text {
        static final int LIMIT = 150;
        private static final int MOST_TWO_FIGURES = 99;

        private final byte[] bytes = new byte[LIMIT];
        int length;
        /** The place of the first TOKEN that can not stand where it does; NONE. */
        int fault;
        private int at;

        void append(int c) {
            if (length < LIMIT) {
                bytes[length] = (byte) c;
                length++;
            }
        }

        int readInto(House house) {
            at = 0;
            fault = NONE;
            house.startAnew(FIRST_HELD);
            passBlanks();
            readFirstItem(house);
            int items = 1;
            // An item has bytes of its own, so there are fewer items than bytes.
            while (items < LIMIT && fault == NONE && at < length) {
                readLaterItem(house);
                items++;
            }
            return items;
        }

        private void readFirstItem(House house) {
            int start = at;
            passLetters();
            if (isNamed(start, "mill")) {
                house.held = readNumber(0, MOST_TWO_FIGURES);
            } else {
                failAt(start);
            }
            readItemsEnd();
        }

        private void readLaterItem(House house) {
            int start = at;
            passLetters();
            if (isNamed(start, "goods")) {
                readGoods(house, start);
            } else if (isNamed(start, "grind")) {
                house.grinding = readNumber(0, house.goodsCount - 1);
            } else if (isNamed(start, "word")) {
                house.word = readNumber(0, WORDS - 1);
            } else if (isNamed(start, "cold")) {
                house.cold = readNumber(0, MOST_COLD);
            } else {
                failAt(start);
            }
            readItemsEnd();
        }

        private void readGoods(House house, int start) {
            if (house.goodsCount >= MOST_GOODS) {
                failAt(start);
            }
            int kind = readNumber(0, KINDS - 1);
            int rate = readNumber(1, MOST_RATE);
            int price = readNumber(0, MOST_PRICE);
            if (fault == NONE) {
                house.addGoods(kind, rate, price);
            }
        }

        /** At the end of the text the fault's place is the text's length, as it is due. */
        private int readNumber(int least, int most) {
            passBlanks();
            int start = at;
            int number = 0;
            while (at < length && within(bytes[at], '0', '9')) {
                // Runs of three figures are faults whatever they say; the bound keeps them small.
                number = Math.min(1000, number * 10 + bytes[at] - '0');
                at++;
            }
            int figures = at - start;
            if (figures < 1 || figures > 2 || !within(number, least, most)) {
                failAt(start);
            }
            return number;
        }

        /** Blanks behind an item go with it, so that what follows begins an item or is the end. */
        private void readItemsEnd() {
            passBlanks();
            if (at < length && bytes[at] == ';') {
                at++;
                passBlanks();
            } else {
                failAt(at);
            }
        }

        private void passBlanks() {
            while (at < length && bytes[at] == ' ') {
                at++;
            }
        }

        private void passLetters() {
            while (at < length && within(bytes[at], 'a', 'z')) {
                at++;
            }
        }

        private boolean isNamed(int start, String name) {
            if (at - start != name.length()) {
                return false;
            }
            for (int i = 0; i < name.length(); i++) {
                if (bytes[start + i] != name.charAt(i)) {
                    return false;
                }
            }
            return true;
        }

        private void failAt(int place) {
            if (fault == NONE) {
                fault = place;
            }
        }
    }
}
