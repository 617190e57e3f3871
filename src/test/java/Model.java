import java.math.BigInteger;
import java.util.ArrayList;
import java.util.Arrays;
import java.util.HashMap;
import java.util.List;
import java.util.Map;
import java.util.regex.Matcher;
import java.util.regex.Pattern;

/**
 * The document once more, as literally as can be and without care for speed: every question is
 * answered by going through the hours, the ways or the turns themselves.
 */
final class Model {
    private static final int NONE = -1;
    private static final int BAD = -2;
    private static final int NO = -3;
    private static final int FULL = -4;

    /** What undo brings back. */
    private record Moment(List<int[]> lots, int spilled, int money, int hour, int grinds, int cold) {
    }

    private static final class State {
        int h = 60;
        int word = 0;
        int grinds = NONE;
        int cold = 0;
        int hour = 0;
        int spilled = 0;
        int money = 0;
        /** KIND, RATE, PRICE, BUSHELS, SOLD. */
        List<int[]> goods = new ArrayList<>();
        List<int[]> guesses = new ArrayList<>();
        List<int[]> notes = new ArrayList<>();
        List<Moment> past = new ArrayList<>();

        State copy() {
            State s = new State();
            s.h = h;
            s.word = word;
            s.grinds = grinds;
            s.cold = cold;
            s.hour = hour;
            s.spilled = spilled;
            s.money = money;
            s.goods = rows(goods);
            s.guesses = rows(guesses);
            s.notes = rows(notes);
            s.past = new ArrayList<>(past);
            return s;
        }

        static List<int[]> rows(List<int[]> from) {
            List<int[]> to = new ArrayList<>();
            for (int[] row : from) {
                to.add(row.clone());
            }
            return to;
        }

        int lying() {
            int all = 0;
            for (int[] lot : goods) {
                all += lot[3];
            }
            return all;
        }

        /** One HOUR in which GOODS g are ground. */
        int pass(int g) {
            int ground = 0;
            if (g >= 0 && g < goods.size()) {
                int[] lot = goods.get(g);
                ground = ground(lot[0], lot[1], hour, cold);
                for (int i = 0; i < ground; i++) {
                    if (lying() < h) {
                        lot[3]++;
                    } else {
                        spilled++;
                    }
                }
            }
            hour++;
            return ground;
        }
    }

    private State now = new State();
    private final State[] images = new State[2];
    private final StringBuilder text = new StringBuilder();
    private final int[] refused = new int[3];
    private BigInteger above = BigInteger.ZERO;
    private BigInteger below = BigInteger.ONE;

    static int ground(int kind, int rate, int h, int c) {
        int slow = c >= 5 ? (int) Math.ceil(rate / 2.0) : rate;
        return new int[] {rate, slow, rate, rate + h % 4, slow + 1, 0}[kind];
    }

    static int fetches(int kind, int price, int sold) {
        int plain = Math.max(0, price - sold / 5);
        return new int[] {plain, plain, 0, plain, plain / 2, 1}[kind];
    }

    private int bad() {
        refused[0]++;
        return BAD;
    }

    private int bad(int answer) {
        refused[0]++;
        return answer;
    }

    private int no() {
        refused[1]++;
        return NO;
    }

    private int noRoom() {
        refused[2]++;
        return FULL;
    }

    private static boolean in(int v, int low, int high) {
        return low <= v && v <= high;
    }

    private boolean has(int g) {
        return in(g, 0, now.goods.size() - 1);
    }

    private int first(int g) {
        return ground(now.goods.get(g)[0], now.goods.get(g)[1], 0, now.cold);
    }

    private void keep() {
        now.past.add(new Moment(State.rows(now.goods), now.spilled, now.money, now.hour, now.grinds, now.cold));
        if (now.past.size() > 8) {
            now.past.remove(0);
        }
    }

    int mill(int h) {
        if (!in(h, 0, 200)) {
            return bad();
        }
        int were = now.goods.size();
        now = new State();
        now.h = h;
        return were;
    }

    int goods(int kind, int rate, int price) {
        if (!in(kind, 0, 5) || !in(rate, 1, 9) || !in(price, 0, 40)) {
            return bad();
        }
        if (now.goods.size() == 6) {
            return noRoom();
        }
        now.goods.add(new int[] {kind, rate, price, 0, 0});
        now.past.clear();
        return now.goods.size() - 1;
    }

    int word(int w) {
        if (!in(w, 0, 31)) {
            return bad();
        }
        now.word = w;
        return 1;
    }

    int type(int c) {
        if (!in(c, 0, 127)) {
            return bad();
        }
        if (text.length() == 150) {
            return noRoom();
        }
        text.append((char) c);
        return text.length();
    }

    int clear() {
        int had = text.length();
        text.setLength(0);
        return had;
    }

    private record Token(String text, int place) {
    }

    private List<Token> tokens() {
        List<Token> tokens = new ArrayList<>();
        Matcher m = Pattern.compile("[a-z]+|[0-9]+|;|[^ ]", Pattern.DOTALL).matcher(text);
        while (m.find()) {
            tokens.add(new Token(m.group(), m.start()));
        }
        tokens.add(new Token("", text.length()));
        return tokens;
    }

    int read() {
        State read = new State();
        List<Token> tokens = tokens();
        int t = 0;
        int items = 0;
        while (items == 0 || t < tokens.size() - 1) {
            String name = tokens.get(t).text;
            boolean fits = items == 0 ? name.equals("mill")
                : name.equals("goods") && read.goods.size() < 6 || List.of("grind", "word", "cold").contains(name);
            if (!fits) {
                return -10 - tokens.get(t).place;
            }
            t++;
            int[][] limits = switch (name) {
                case "mill" -> new int[][] {{0, 99}};
                case "goods" -> new int[][] {{0, 5}, {1, 9}, {0, 40}};
                case "grind" -> new int[][] {{0, read.goods.size() - 1}};
                case "word" -> new int[][] {{0, 31}};
                default -> new int[][] {{0, 9}};
            };
            int[] numbers = new int[limits.length];
            for (int i = 0; i < limits.length; i++, t++) {
                Token token = tokens.get(t);
                if (!token.text.matches("[0-9]{1,2}") || !in(Integer.parseInt(token.text), limits[i][0], limits[i][1])) {
                    return -10 - token.place;
                }
                numbers[i] = Integer.parseInt(token.text);
            }
            if (!tokens.get(t).text.equals(";")) {
                return -10 - tokens.get(t).place;
            }
            t++;
            items++;
            switch (name) {
                case "mill" -> read.h = numbers[0];
                case "goods" -> read.goods.add(new int[] {numbers[0], numbers[1], numbers[2], 0, 0});
                case "grind" -> read.grinds = numbers[0];
                case "word" -> read.word = numbers[0];
                default -> read.cold = numbers[0];
            }
        }
        now = read;
        return items;
    }

    int grind(int g) {
        if (!has(g)) {
            return bad(-10);
        }
        keep();
        int was = now.grinds;
        now.grinds = g;
        return was;
    }

    int hour(int n) {
        if (!in(n, 1, 60)) {
            return bad();
        }
        keep();
        int ground = 0;
        for (int i = 0; i < n; i++) {
            ground += now.pass(now.grinds);
        }
        return ground;
    }

    private static int like(int w, int v) {
        int like = 0;
        for (int letter = 0; letter < 5; letter++) {
            if ((w >> letter) % 2 == (v >> letter) % 2) {
                like++;
            }
        }
        return like;
    }

    int say(int w) {
        if (!in(w, 0, 31)) {
            return bad();
        }
        keep();
        if (w == now.word) {
            now.grinds = NONE;
        }
        return like(w, now.word);
    }

    int sell(int g, int n) {
        if (!has(g) || !in(n, 1, 200)) {
            return bad();
        }
        int[] lot = now.goods.get(g);
        if (lot[3] < n) {
            return no();
        }
        keep();
        int before = now.money;
        for (int i = 0; i < n; i++) {
            now.money += fetches(lot[0], lot[2], lot[4]);
            lot[3]--;
            lot[4]++;
        }
        return now.money - before;
    }

    int cold(int c) {
        if (!in(c, 0, 9)) {
            return bad();
        }
        keep();
        int was = now.cold;
        now.cold = c;
        return was;
    }

    int undo() {
        if (now.past.isEmpty()) {
            return no();
        }
        Moment m = now.past.remove(now.past.size() - 1);
        now.goods = State.rows(m.lots);
        now.spilled = m.spilled;
        now.money = m.money;
        now.hour = m.hour;
        now.grinds = m.grinds;
        now.cold = m.cold;
        return now.hour;
    }

    int of(int g, int what) {
        if (!has(g) || !in(what, 0, 6)) {
            return bad();
        }
        int[] lot = now.goods.get(g);
        return what < 5 ? lot[what] : what == 5 ? ground(lot[0], lot[1], now.hour, now.cold)
            : fetches(lot[0], lot[2], lot[4]);
    }

    int grinds() {
        return now.grinds;
    }

    int then(int m, int what) {
        if (!in(m, 0, 60) || !in(what, 0, 1)) {
            return bad();
        }
        State s = now.copy();
        for (int i = 0; i < m; i++) {
            s.pass(s.grinds);
        }
        return what == 0 ? s.lying() : s.spilled;
    }

    int full() {
        State s = now.copy();
        for (int m = 0; m <= 60; m++) {
            if (s.lying() == s.h) {
                return m;
            }
            s.pass(s.grinds);
        }
        return NONE;
    }

    /** All ways to give at most n HOURS to GOODS, most of GOODS 0 first, then of 1, .. */
    private void ways(int n, int[] way, int g, List<int[]> all) {
        if (g == way.length) {
            all.add(way.clone());
            return;
        }
        for (int hours = n; hours >= 0; hours--) {
            way[g] = hours;
            ways(n - hours, way, g + 1, all);
        }
    }

    private int[] justWay(int n) {
        // Layer by layer: for each sum the first way by so many HOURS.
        Map<Integer, int[]> layer = new HashMap<>();
        layer.put(0, new int[now.goods.size()]);
        for (int hours = 0; hours <= 60; hours++) {
            if (layer.containsKey(n)) {
                return layer.get(n);
            }
            Map<Integer, int[]> next = new HashMap<>();
            for (Map.Entry<Integer, int[]> e : layer.entrySet()) {
                for (int g = 0; g < now.goods.size(); g++) {
                    int sum = e.getKey() + first(g);
                    int[] way = e.getValue().clone();
                    way[g]++;
                    if (sum <= n && (!next.containsKey(sum) || Arrays.compare(next.get(sum), way) < 0)) {
                        next.put(sum, way);
                    }
                }
            }
            layer = next;
        }
        return null;
    }

    int just(int n, int i) {
        if (!in(n, 1, 60) || i != NONE && !has(i)) {
            return bad(-10);
        }
        int[] way = justWay(n);
        return way == null ? NONE : i == NONE ? Arrays.stream(way).sum() : way[i];
    }

    int best(int n, int i) {
        if (!in(n, 0, 12) || i != NONE && !has(i)) {
            return bad(-10);
        }
        List<int[]> all = new ArrayList<>();
        ways(n, new int[now.goods.size()], 0, all);
        int most = -1;
        int[] first = null;
        int[][] comes = new int[now.goods.size()][n + 1];
        for (int g = 0; g < comes.length; g++) {
            int[] lot = now.goods.get(g);
            for (int hours = 0; hours <= n; hours++) {
                for (int b = 0; b < hours * first(g); b++) {
                    comes[g][hours] += fetches(lot[0], lot[2], lot[4] + b);
                }
            }
        }
        for (int[] way : all) {
            int money = 0;
            for (int g = 0; g < way.length; g++) {
                money += comes[g][way[g]];
            }
            if (money > most) {
                most = money;
                first = way;
            }
        }
        return i == NONE ? most : first[i];
    }

    int ship(int g, int n) {
        if (!has(g) || !in(n, 0, 300)) {
            return bad();
        }
        State s = now.copy();
        int aboard = 0;
        for (int m = 1; m <= 60; m++) {
            aboard += s.pass(g);
            if (aboard > n) {
                return m;
            }
        }
        return NONE;
    }

    int guess(int w, int a) {
        if (!in(w, 0, 31) || !in(a, 0, 5)) {
            return bad();
        }
        if (now.guesses.size() == 6) {
            return noRoom();
        }
        now.guesses.add(new int[] {w, a});
        return now.guesses.size();
    }

    private List<Integer> fitting() {
        List<Integer> fitting = new ArrayList<>();
        for (int w = 0; w < 32; w++) {
            boolean fits = true;
            for (int[] guess : now.guesses) {
                fits &= like(w, guess[0]) == guess[1];
            }
            if (fits) {
                fitting.add(w);
            }
        }
        return fitting;
    }

    int words(int what) {
        if (!in(what, 0, 1)) {
            return bad();
        }
        List<Integer> fitting = fitting();
        return what == 0 ? fitting.size() : fitting.isEmpty() ? NONE : fitting.get(0);
    }

    private static int mostOf(Map<Integer, Integer> groups) {
        return groups.values().stream().max(Integer::compare).orElse(0);
    }

    int nextGuess() {
        int next = NONE;
        int fewest = Integer.MAX_VALUE;
        for (int w = 0; w < 32; w++) {
            Map<Integer, Integer> groups = new HashMap<>();
            for (int v : fitting()) {
                groups.merge(like(w, v), 1, Integer::sum);
            }
            if (!groups.isEmpty() && mostOf(groups) < fewest) {
                fewest = mostOf(groups);
                next = w;
            }
        }
        return next;
    }

    /** MONEY of both, turn by turn. */
    private int[] sale(int n, int i, int j) {
        State s = now.copy();
        int[] which = {i, j};
        int[] have = {n * first(i), n * first(j)};
        int[] money = new int[2];
        for (int turn = 0; have[0] > 0 || have[1] > 0; turn = 1 - turn) {
            if (have[turn] > 0) {
                int[] lot = s.goods.get(which[turn]);
                money[turn] += fetches(lot[0], lot[2], lot[4]);
                lot[4]++;
                have[turn]--;
            }
        }
        return money;
    }

    int street(int n, int k) {
        if (!in(n, 1, 9) || k < NONE) {
            return bad(-10);
        }
        int m = now.goods.size();
        int[][][] money = new int[m][m][];
        for (int i = 0; i < m; i++) {
            for (int j = 0; j < m; j++) {
                money[i][j] = sale(n, i, j);
            }
        }
        List<Integer> resting = new ArrayList<>();
        for (int i = 0; i < m; i++) {
            for (int j = 0; j < m; j++) {
                boolean rests = true;
                for (int o = 0; o < m; o++) {
                    rests &= money[o][j][0] <= money[i][j][0] && money[i][o][1] <= money[i][j][1];
                }
                if (rests) {
                    resting.add(6 * i + j);
                }
            }
        }
        return k == NONE ? resting.size() : k < resting.size() ? resting.get(k) : -5;
    }

    int note(int g, int h, int c, int b) {
        if (!has(g) || !in(h, 0, 99) || !in(c, 0, 9) || !in(b, 0, 20)) {
            return bad();
        }
        if (now.notes.size() == 6) {
            return noRoom();
        }
        now.notes.add(new int[] {g, h, c, b});
        return now.notes.size();
    }

    int forget(int what) {
        if (!in(what, 0, 1)) {
            return bad();
        }
        List<int[]> list = what == 0 ? now.guesses : now.notes;
        int were = list.size();
        list.clear();
        return were;
    }

    private boolean so(int g, int kind, int rate) {
        return now.notes.stream().filter(n -> n[0] == g).allMatch(n -> ground(kind, rate, n[1], n[2]) == n[3]);
    }

    int is(int g, int what) {
        if (!has(g) || !in(what, 0, 1)) {
            return bad();
        }
        int[] lot = now.goods.get(g);
        int bits = 0;
        for (int kind = 0; kind < 6; kind++) {
            bits += so(g, kind, lot[1]) ? (int) Math.pow(2, kind) : 0;
        }
        int rates = 0;
        for (int rate = 1; rate <= 9; rate++) {
            rates += so(g, lot[0], rate) ? 1 : 0;
        }
        return what == 0 ? bits : rates;
    }

    int look(int g) {
        if (!has(g)) {
            return bad();
        }
        int rate = now.goods.get(g)[1];
        int next = NONE;
        int fewest = Integer.MAX_VALUE;
        for (int ch = 0; ch < 100; ch++) {
            Map<Integer, Integer> groups = new HashMap<>();
            for (int kind = 0; kind < 6; kind++) {
                if (so(g, kind, rate)) {
                    groups.merge(ground(kind, rate, ch % 10, ch / 10), 1, Integer::sum);
                }
            }
            if (ch % 10 <= 3 && !groups.isEmpty() && mostOf(groups) < fewest) {
                fewest = mostOf(groups);
                next = ch;
            }
        }
        return next;
    }

    int thieves(int g, int n, int c) {
        if (!has(g) || !in(n, 0, 9) || !in(c, 0, 10)) {
            return bad();
        }
        // By the HOUR in which it is stolen, of each the chance and what was ground until then.
        BigInteger ten = BigInteger.TEN;
        BigInteger sum = BigInteger.ZERO;
        State s = now.copy();
        int ground = 0;
        for (int i = 0; i < n; i++) {
            BigInteger chance = BigInteger.valueOf(10 - c).pow(i).multiply(BigInteger.valueOf(c)).multiply(ten.pow(n - i - 1));
            sum = sum.add(chance.multiply(BigInteger.valueOf(ground)));
            ground += s.pass(g);
        }
        sum = sum.add(BigInteger.valueOf(10 - c).pow(n).multiply(BigInteger.valueOf(ground)));
        BigInteger common = sum.gcd(ten.pow(n));
        above = sum.divide(common);
        below = ten.pow(n).divide(common);
        return 1;
    }

    int mills(int seed, int n) {
        if (!in(seed, 0, 999999) || !in(n, 0, 60)) {
            return bad();
        }
        State s = now.copy();
        BigInteger x = BigInteger.valueOf(seed);
        for (int i = 0; i < n; i++) {
            x = x.multiply(BigInteger.valueOf(1103515245)).add(BigInteger.valueOf(12345)).mod(BigInteger.TWO.pow(31));
            s.pass(x.divide(BigInteger.valueOf(65536)).intValue() % 8);
        }
        return s.lying() + s.spilled;
    }

    long part(int what) {
        return what == 0 ? above.longValueExact() : what == 1 ? below.longValueExact() : bad();
    }

    int image(int i) {
        if (!in(i, 0, 1)) {
            return bad();
        }
        images[i] = now.copy();
        return 1;
    }

    int from(int i) {
        if (!in(i, 0, 1)) {
            return bad();
        }
        if (images[i] == null) {
            return no();
        }
        now = images[i].copy();
        return 1;
    }

    int status(int what) {
        return in(what, 0, 2) ? refused[what] : bad(-1);
    }

    private int[] counts() {
        return new int[] {now.goods.size(), now.hour, now.lying(), now.spilled, now.money, now.guesses.size(),
            now.notes.size(), now.past.size(), text.length(), now.cold};
    }

    int count(int what) {
        return in(what, 0, 9) ? counts()[what] : bad();
    }

    long digest() {
        List<Long> values = new ArrayList<>();
        for (int v : counts()) {
            values.add((long) v);
        }
        values.addAll(List.of((long) now.h, (long) now.word, (long) now.grinds));
        for (List<int[]> rows : List.of(now.goods, now.guesses, now.notes)) {
            for (int[] row : rows) {
                for (int v : row) {
                    values.add((long) v);
                }
            }
        }
        values.addAll(List.of(above.longValueExact(), below.longValueExact()));
        long h = 1231;
        for (long v : values) {
            h = 31 * h + v;
        }
        return h;
    }
}
