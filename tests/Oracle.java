import java.util.ArrayDeque;
import java.util.ArrayList;
import java.util.Arrays;
import java.util.Deque;
import java.util.List;
import java.util.TreeMap;

/** The document once more, written as naively as can be (all sets tried, texts read each time anew), to compare with. */
final class Oracle {
    static final int NONE = -1;

    record Piece(int kind, int size, int born, int edges, boolean forged) {
    }

    record Feast(int day, int kind, int guests) {
    }

    record Want(int kind, int size, int by, int pays) {
    }

    record Dish(int worth, TreeMap<Integer, Integer> needs) {
    }

    record Token(String text, int place) {
    }

    static final class Fault extends RuntimeException {
        private static final long serialVersionUID = 1L;
        final int which;
        final int place;

        Fault(int which, int place) {
            this.which = which;
            this.place = place;
        }
    }

    /** All that an image keeps. */
    static final class World {
        int state;
        int day;
        int coin = 100;
        int fines;
        int inspect;
        int dogs;
        int eaten;
        List<int[]> kinds = new ArrayList<>();
        List<Piece> remains = new ArrayList<>();
        List<Feast> feasts = new ArrayList<>();
        List<Want> wants = new ArrayList<>();
        List<Integer> met = new ArrayList<>();
        List<Dish> dishes = new ArrayList<>();
        List<int[]> book = new ArrayList<>();
        List<String> law = new ArrayList<>();
        List<int[]> pieces = new ArrayList<>();
        List<int[]> tests = new ArrayList<>();
        List<Integer> limits = new ArrayList<>();
        List<int[]> trades = new ArrayList<>();

        World copy() {
            World w = new World();
            w.state = state;
            w.day = day;
            w.coin = coin;
            w.fines = fines;
            w.inspect = inspect;
            w.dogs = dogs;
            w.eaten = eaten;
            w.kinds = new ArrayList<>(kinds);
            w.remains = new ArrayList<>(remains);
            w.feasts = new ArrayList<>(feasts);
            w.wants = new ArrayList<>(wants);
            w.met = new ArrayList<>(met);
            w.dishes = new ArrayList<>(dishes);
            w.book = new ArrayList<>(book);
            w.law = new ArrayList<>(law);
            w.pieces = new ArrayList<>(pieces);
            w.tests = new ArrayList<>(tests);
            w.limits = new ArrayList<>(limits);
            w.trades = new ArrayList<>(trades);
            return w;
        }

        /** As it is now, but what does not belong to a step stays as it is in the later world. */
        World stepBackFrom(World later) {
            World w = copy();
            w.law = later.law;
            w.dishes = later.dishes;
            w.pieces = later.pieces;
            w.tests = later.tests;
            w.limits = later.limits;
            w.trades = later.trades;
            return w;
        }
    }

    World w = new World();
    World image;
    final Deque<World> past = new ArrayDeque<>();
    final StringBuilder tape = new StringBuilder();
    int fault = 0;
    int faultPlace = NONE;

    void step() {
        past.addLast(w.copy());
        if (past.size() > 6) {
            past.removeFirst();
        }
    }

    int state(int v) {
        int was = w.state;
        w.state = v;
        past.clear();
        return was;
    }

    boolean set(int what, int v) {
        boolean can = what == 0 ? Math.abs((long) v) <= 9999 : (what == 1 || what == 2) && v >= 0 && v <= 1000;
        if (!can) {
            return false;
        }
        if (what == 0) {
            w.coin = v;
        } else if (what == 1) {
            w.inspect = v;
        } else {
            w.dogs = v;
        }
        past.clear();
        return true;
    }

    boolean isKind(int k) {
        return k >= 0 && k < w.kinds.size();
    }

    boolean isFeast(int kind, int guests) {
        return isKind(kind) && guests >= 1 && guests <= 20;
    }

    boolean isPlace(int p) {
        return p >= 0 && p < w.remains.size();
    }

    void note(int what, int which, int much) {
        if (w.book.size() < 150) {
            w.book.add(new int[] {w.day, what, which, much});
        }
    }

    int hold(int kind, int guests) {
        w.eaten++;
        int size = leftOf(kind, guests);
        if (w.remains.size() == 14) {
            size = 0;
        }
        if (size > 0) {
            w.remains.add(new Piece(kind, size, w.day, edgeOf(kind, guests), false));
        }
        note(0, kind, size);
        return size;
    }

    int feast(int kind, int guests) {
        if (!isFeast(kind, guests)) {
            return NONE;
        }
        step();
        return hold(kind, guests);
    }

    int forge(int kind, int size) {
        if (!isKind(kind) || size < 1 || size >= w.kinds.get(kind)[0] || w.coin < 20 || w.remains.size() == 14) {
            return NONE;
        }
        step();
        w.coin -= 20;
        w.remains.add(new Piece(kind, size, w.day, 9, true));
        note(1, kind, size);
        return w.remains.size() - 1;
    }

    int cut(int place, int size) {
        if (!isPlace(place) || size < 1 || size >= w.remains.get(place).size() || w.remains.size() == 14) {
            return NONE;
        }
        step();
        Piece p = w.remains.get(place);
        int edges = p.edges() == 9 ? 9 : p.edges() + 1;
        w.remains.set(place, new Piece(p.kind(), size, p.born(), edges, p.forged()));
        w.remains.add(new Piece(p.kind(), p.size() - size, p.born(), edges, p.forged()));
        note(2, p.kind(), size);
        return w.remains.size() - 1;
    }

    int join(int a, int b) {
        if (!isPlace(a) || !isPlace(b) || a == b || w.remains.get(a).kind() != w.remains.get(b).kind()) {
            return NONE;
        }
        step();
        Piece p = w.remains.get(a);
        Piece q = w.remains.get(b);
        int size = (p.size() + q.size()) * 9 / 10;
        size = size < 1 ? 1 : size > 99 ? 99 : size;
        w.remains.set(a, new Piece(p.kind(), size, Math.min(p.born(), q.born()), Math.max(p.edges(), q.edges()),
            p.forged() || q.forged()));
        w.remains.remove(b);
        note(3, p.kind(), size);
        return size;
    }

    int sell(int place) {
        if (!isPlace(place)) {
            return NONE;
        }
        step();
        int price = priceOf(w.remains.get(place), 0);
        w.coin += price;
        note(4, w.remains.remove(place).kind(), price);
        return price;
    }

    int draw(int m) {
        w.state = w.state * 1664525 + 1013904223;
        return (int) ((Integer.toUnsignedLong(w.state) / 256) % m);
    }

    /** (a), (b); the lines MET. */
    List<Integer> morning() {
        for (Feast f : w.feasts) {
            if (f.day() == w.day) {
                hold(f.kind(), f.guests());
            }
        }
        List<Integer> now = new ArrayList<>();
        for (int i = 0; i < w.wants.size(); i++) {
            Want want = w.wants.get(i);
            if (w.met.contains(i) || w.day > want.by()) {
                continue;
            }
            int set = joinsSet(want.kind(), want.size());
            if (set == 0) {
                continue;
            }
            List<Piece> stay = new ArrayList<>();
            for (int p = 0; p < w.remains.size(); p++) {
                if ((set >> p & 1) == 0) {
                    stay.add(w.remains.get(p));
                }
            }
            w.remains = stay;
            w.met.add(i);
            now.add(i);
            w.coin += want.pays();
            note(5, i, Integer.bitCount(set));
        }
        return now;
    }

    void evening(boolean thought) {
        List<Piece> stay = new ArrayList<>();
        for (Piece p : w.remains) {
            boolean goes = w.day - p.born() >= w.kinds.get(p.kind())[1];
            if (!goes && !thought) {
                int spoil = spoilOf(p);
                goes = spoil > 0 && draw(1000) < spoil;
            }
            if (goes) {
                note(6, p.kind(), p.size());
            } else {
                stay.add(p);
            }
        }
        w.remains = stay;
        if (!thought && w.inspect > 0 && draw(1000) < w.inspect) {
            for (int i = 0; i < w.remains.size(); i++) {
                if (w.remains.get(i).forged()) {
                    Piece p = w.remains.remove(i);
                    note(7, p.kind(), p.size());
                    w.fines++;
                    w.coin -= 50;
                    break;
                }
            }
        }
        if (!thought && w.dogs > 0 && !w.remains.isEmpty() && draw(1000) < w.dogs) {
            Piece p = w.remains.remove(draw(w.remains.size()));
            note(8, p.kind(), p.size());
        }
        w.day++;
    }

    int days(int n) {
        if (n < 1 || n > 60 || w.day + n > 9999) {
            return NONE;
        }
        int met = 0;
        for (int i = 0; i < n; i++) {
            step();
            met += morning().size();
            evening(false);
        }
        return met;
    }

    int feed(int... five) {
        if (tape.length() + 20 > 400) {
            return NONE;
        }
        for (int v : five) {
            for (int i = 3; i >= 0; i--) {
                tape.append((char) (v >> 8 * i & 255));
            }
        }
        return tape.length();
    }

    boolean end(int n) {
        if (n < 0 || n > tape.length()) {
            return false;
        }
        tape.setLength(n);
        return true;
    }

    int text(int k) {
        String text = tape.toString();
        tape.setLength(0);
        fault = 0;
        faultPlace = NONE;
        if (k < 0 || k > 4) {
            return NONE;
        }
        try {
            return new Text(text).tell(k);
        } catch (Fault f) {
            fault = f.which;
            faultPlace = f.place;
            return NONE;
        }
    }

    /** A text as tokens: words, numbers, signs; "" is the end. */
    final class Text {
        final List<Token> tokens = new ArrayList<>();
        int at = 0;

        Text(String text) {
            int i = 0;
            while (i < text.length()) {
                char c = text.charAt(i);
                int from = i++;
                if (c == ' ' || c == '\n') {
                    continue;
                }
                int sort = sort(c);
                while (sort > 0 && i < text.length() && sort(text.charAt(i)) == sort) {
                    i++;
                }
                tokens.add(new Token(text.substring(from, i), from));
            }
            tokens.add(new Token("", text.length()));
        }

        int sort(char c) {
            return c >= '0' && c <= '9' ? 1 : c >= 'a' && c <= 'z' || c >= 'A' && c <= 'Z' ? 2 : 0;
        }

        Token peek() {
            return tokens.get(at);
        }

        boolean is(String... words) {
            return Arrays.asList(words).contains(peek().text());
        }

        boolean isNumber() {
            String text = peek().text();
            return !text.isEmpty() && text.length() <= 4 && sort(text.charAt(0)) == 1;
        }

        void need(boolean so, int which) {
            if (!so) {
                throw new Fault(which, peek().place());
            }
        }

        void word(String word) {
            need(is(word), 1);
            at++;
        }

        int number(int low, int high) {
            need(isNumber(), 1);
            int v = Integer.parseInt(peek().text());
            need(v >= low && v <= high, 2);
            at++;
            return v;
        }

        int tell(int k) {
            return k == 0 ? kinds() : k == 1 ? law() : k == 2 ? feasts() : k == 3 ? wants() : dishes();
        }

        int kinds() {
            List<int[]> kinds = new ArrayList<>();
            while (!is("")) {
                need(is("kind"), 1);
                need(kinds.size() < 6, 3);
                at++;
                int whole = number(1, 99);
                word("keeps");
                kinds.add(new int[] {whole, number(1, 30)});
                word(";");
            }
            w.kinds = kinds;
            w.remains = new ArrayList<>();
            w.feasts = new ArrayList<>();
            w.wants = new ArrayList<>();
            w.met = new ArrayList<>();
            w.dishes = new ArrayList<>();
            past.clear();
            return kinds.size();
        }

        int law() {
            List<String> lines = new ArrayList<>();
            while (!is("")) {
                need(is("left", "price", "spoil", "edge"), 1);
                need(lines.size() < 16, 3);
                int from = at++;
                sum(null);
                if (is("when")) {
                    at++;
                    either(null, 0);
                }
                word(";");
                StringBuilder line = new StringBuilder();
                for (int i = from; i < at; i++) {
                    line.append(tokens.get(i).text()).append(' ');
                }
                lines.add(line.toString());
            }
            w.law = lines;
            return lines.size();
        }

        boolean either(TreeMap<String, Integer> facts, int open) {
            boolean so = both(facts, open);
            while (is("or")) {
                at++;
                so = both(facts, open) | so;
            }
            return so;
        }

        boolean both(TreeMap<String, Integer> facts, int open) {
            boolean so = condition(facts, open);
            while (is("and")) {
                at++;
                so = condition(facts, open) & so;
            }
            return so;
        }

        boolean condition(TreeMap<String, Integer> facts, int open) {
            if (is("not", "(")) {
                need(open < 8, 3);
            }
            if (is("not")) {
                at++;
                return !condition(facts, open + 1);
            }
            if (is("(")) {
                at++;
                boolean so = either(facts, open + 1);
                word(")");
                return so;
            }
            int a = sum(facts);
            need(is("<", "=", ">"), 1);
            String sign = tokens.get(at++).text();
            int b = sum(facts);
            return sign.equals("<") ? a < b : sign.equals("=") ? a == b : a > b;
        }

        int sum(TreeMap<String, Integer> facts) {
            int v = product(facts);
            while (is("+", "-")) {
                boolean plus = is("+");
                at++;
                int next = product(facts);
                v = plus ? v + next : v - next;
            }
            return v;
        }

        int product(TreeMap<String, Integer> facts) {
            int v = unit(facts);
            while (is("*", "/")) {
                boolean times = is("*");
                at++;
                v = times ? v * unit(facts) : v / number(1, 9999);
            }
            return v;
        }

        int unit(TreeMap<String, Integer> facts) {
            if (isNumber()) {
                return number(0, 9999);
            }
            need(is("kind", "whole", "guests", "size", "age", "edges", "day"), 1);
            String fact = tokens.get(at++).text();
            return facts == null ? 0 : facts.get(fact);
        }

        int feasts() {
            List<Feast> feasts = new ArrayList<>();
            while (!is("")) {
                need(is("on"), 1);
                need(feasts.size() < 12, 3);
                at++;
                int day = number(0, 999);
                word("feast");
                int kind = number(0, w.kinds.size() - 1);
                word("for");
                feasts.add(new Feast(day, kind, number(1, 20)));
                word(";");
            }
            w.feasts = feasts;
            past.clear();
            return feasts.size();
        }

        int wants() {
            List<Want> wants = new ArrayList<>();
            while (!is("")) {
                need(is("want"), 1);
                need(wants.size() < 12, 3);
                at++;
                int kind = number(0, w.kinds.size() - 1);
                int size = number(1, 99);
                word("by");
                int by = number(0, 999);
                word("pays");
                wants.add(new Want(kind, size, by, number(0, 999)));
                word(";");
            }
            w.wants = wants;
            w.met = new ArrayList<>();
            past.clear();
            return wants.size();
        }

        int dishes() {
            List<Dish> dishes = new ArrayList<>();
            while (!is("")) {
                need(is("dish"), 1);
                need(dishes.size() < 12, 3);
                at++;
                Dish dish = new Dish(number(1, 99), new TreeMap<>());
                while (!is(";")) {
                    need(isNumber(), 1);
                    int kind = Integer.parseInt(peek().text());
                    need(kind < w.kinds.size() && !dish.needs().containsKey(kind), 2);
                    need(dish.needs().size() < 4, 3);
                    at++;
                    dish.needs().put(kind, number(1, 99));
                }
                at++;
                dishes.add(dish);
            }
            w.dishes = dishes;
            return dishes.size();
        }
    }

    int tells(String word, TreeMap<String, Integer> facts, int otherwise) {
        for (String line : w.law) {
            Text text = new Text(line);
            text.at = 1;
            int value = text.sum(facts);
            boolean so = true;
            if (text.is("when")) {
                text.at++;
                so = text.either(facts, 0);
            }
            if (so && line.startsWith(word + " ")) {
                return value;
            }
        }
        return otherwise;
    }

    static int clamp(int v, int low, int high) {
        return v < low ? low : v > high ? high : v;
    }

    TreeMap<String, Integer> facts(int kind, int guests, int size, int age, int edges, int day) {
        TreeMap<String, Integer> facts = new TreeMap<>();
        facts.put("kind", kind);
        facts.put("whole", w.kinds.get(kind)[0]);
        facts.put("guests", guests);
        facts.put("size", size);
        facts.put("age", age);
        facts.put("edges", edges);
        facts.put("day", day);
        return facts;
    }

    int leftOf(int kind, int guests) {
        int whole = w.kinds.get(kind)[0];
        return clamp(tells("left", facts(kind, guests, 0, 0, 0, w.day), whole - 5 * guests), 0, whole - 1);
    }

    int edgeOf(int kind, int guests) {
        return clamp(tells("edge", facts(kind, guests, 0, 0, 0, w.day), 3), 0, 9);
    }

    int priceOf(Piece p, int later) {
        return clamp(tells("price", facts(p.kind(), 0, p.size(), w.day + later - p.born(), p.edges(), w.day + later),
            p.size()), 0, 999);
    }

    int spoilOf(Piece p) {
        return clamp(tells("spoil", facts(p.kind(), 0, p.size(), w.day - p.born(), p.edges(), w.day), 0), 0, 1000);
    }

    int fault(int what) {
        return what == 0 ? fault : what == 1 ? faultPlace : NONE;
    }

    int remain(int place, int what) {
        if (!isPlace(place) || what < 0 || what > 6) {
            return NONE;
        }
        Piece p = w.remains.get(place);
        return new int[] {p.kind(), p.size(), p.born(), p.edges(), p.forged() ? 1 : 0, priceOf(p, 0), spoilOf(p)}[what];
    }

    int kind(int k, int what) {
        if (!isKind(k) || what < 0 || what > 3) {
            return NONE;
        }
        int number = (int) w.remains.stream().filter(p -> p.kind() == k).count();
        int sizes = w.remains.stream().filter(p -> p.kind() == k).mapToInt(Piece::size).sum();
        return new int[] {w.kinds.get(k)[0], w.kinds.get(k)[1], number, sizes}[what];
    }

    int left(int kind, int guests, boolean edge) {
        return !isFeast(kind, guests) ? NONE : edge ? edgeOf(kind, guests) : leftOf(kind, guests);
    }

    int want(int i, int what) {
        if (i < 0 || i >= w.wants.size() || what < 0 || what > 4) {
            return NONE;
        }
        Want x = w.wants.get(i);
        return new int[] {x.kind(), x.size(), x.by(), x.pays(), w.met.contains(i) ? 1 : 0}[what];
    }

    int book(int i, int what) {
        return i < 0 || i >= w.book.size() || what < 0 || what > 3 ? NONE : w.book.get(i)[what];
    }

    int goes(int n, int what) {
        if (n < 1 || n > 60 || what < 0 || what > 3) {
            return -100000;
        }
        World now = w;
        w = now.copy();
        int first = NONE;
        for (int i = 0; i < n; i++) {
            morning();
            for (int j = 0; j < w.wants.size() && first == NONE; j++) {
                if (w.wants.get(j).by() == w.day && !w.met.contains(j)) {
                    first = j;
                }
            }
            evening(true);
        }
        int answer = new int[] {w.coin, w.met.size(), w.remains.size(), first}[what];
        w = now;
        return answer;
    }

    int joinsSet(int kind, int size) {
        int best = 0;
        int bestSum = 0;
        for (int set = 1; set < 1 << w.remains.size(); set++) {
            int sum = 0;
            boolean ofKind = true;
            for (int p = 0; p < w.remains.size() && ofKind; p++) {
                if ((set >> p & 1) == 1) {
                    ofKind = w.remains.get(p).kind() == kind;
                    sum += w.remains.get(p).size();
                }
            }
            int number = Integer.bitCount(set);
            if (!ofKind || (number == 1 ? sum : sum * 9 / 10) < size) {
                continue;
            }
            int bestNumber = Integer.bitCount(best);
            if (best == 0 || number < bestNumber || number == bestNumber && sum < bestSum) {
                best = set;
                bestSum = sum;
            }
        }
        return best;
    }

    int joins(int kind, int size, int what) {
        if (!isKind(kind) || size < 1 || size > 99 || what < 0 || what > 1) {
            return NONE;
        }
        int set = joinsSet(kind, size);
        return set == 0 ? NONE : what == 0 ? Integer.bitCount(set) : set;
    }

    int most(int kind, int size, int what) {
        if (!isKind(kind) || what < 0 || what > 2 || what == 2 && (size < 1 || size > 999)) {
            return NONE;
        }
        int best = 1;
        for (int guests = 1; guests <= 20; guests++) {
            if (leftOf(kind, guests) > leftOf(kind, best)) {
                best = guests;
            }
        }
        int left = leftOf(kind, best);
        if (what < 2) {
            return what == 0 ? best : left;
        }
        for (int n = 1; n <= 20; n++) {
            if ((n == 1 ? left : n * left * 9 / 10) >= size) {
                return n;
            }
        }
        return NONE;
    }

    static boolean in(int v, int low, int high) {
        return low <= v && v <= high;
    }

    int piece(int length, int worth) {
        return added(w.pieces, 6, length, in(length, 1, 30) && in(worth, 1, 99), length, worth);
    }

    int added(List<int[]> list, int most, int first, boolean can, int... row) {
        if (first == NONE) {
            list.clear();
            return 0;
        }
        if (!can || list.size() == most) {
            return NONE;
        }
        list.add(row);
        return list.size();
    }

    int cuts(int b, int what) {
        boolean ofPiece = what >= 10 && what - 10 < w.pieces.size();
        if (!in(b, 0, 99) || what != 0 && !ofPiece) {
            return NONE;
        }
        int[] best = ways(b, 0);
        return what == 0 ? best[6] : best[what - 10];
    }

    /** The best way by the pieces from i on: counts, and the worth behind them. Greater counts come first. */
    int[] ways(int b, int i) {
        if (i == w.pieces.size()) {
            return new int[7];
        }
        int[] piece = w.pieces.get(i);
        int[] best = null;
        if (i == w.pieces.size() - 1) {
            best = new int[7];
            best[i] = b / piece[0];
            best[6] = best[i] * piece[1];
            return best;
        }
        for (int n = b / piece[0]; n >= 0; n--) {
            int[] way = ways(b - n * piece[0], i + 1);
            way[i] = n;
            way[6] += n * piece[1];
            if (best == null || way[6] > best[6]) {
                best = way;
            }
        }
        return best;
    }

    int stalls(int c) {
        if (!in(c, 1, 99) || w.remains.size() > 10) {
            return NONE;
        }
        for (Piece p : w.remains) {
            if (p.size() > c) {
                return NONE;
            }
        }
        return lay(0, new int[10], 0, c);
    }

    int lay(int item, int[] fills, int used, int c) {
        if (item == w.remains.size()) {
            return used;
        }
        int size = w.remains.get(item).size();
        int best = 99;
        for (int s = 0; s <= used && s < 10; s++) {
            if (fills[s] + size <= c) {
                fills[s] += size;
                best = Math.min(best, lay(item + 1, fills, Math.max(used, s + 1), c));
                fills[s] -= size;
            }
        }
        return best;
    }

    int test(int t, int f) {
        return added(w.tests, 6, t, in(t, 1, 999) && in(f, 1, 999), t, f);
    }

    int forged(int p, int shown, int not) {
        int n = w.tests.size();
        if (!in(p, 0, 1000) || !in(shown, 0, (1 << n) - 1) || !in(not, 0, (1 << n) - 1) || (shown & not) != 0) {
            return NONE;
        }
        long q = p * 1000L;
        for (int i = 0; i < n; i++) {
            if (((shown | not) >> i & 1) == 1) {
                boolean shows = (shown >> i & 1) == 1;
                long t = shows ? w.tests.get(i)[0] : 1000 - w.tests.get(i)[0];
                long f = shows ? w.tests.get(i)[1] : 1000 - w.tests.get(i)[1];
                q = 1000000L * q * f / (q * f + (1000000L - q) * t);
            }
        }
        return (int) q;
    }

    int lookAt(int p) {
        if (!in(p, 0, 1000)) {
            return NONE;
        }
        int best = NONE;
        int most = NONE;
        for (int i = 0; i < w.tests.size(); i++) {
            int sure = Math.max(forged(p, 1 << i, 0), 1000000 - forged(p, 0, 1 << i));
            if (sure > most) {
                most = sure;
                best = i;
            }
        }
        return best;
    }

    int crumbs(int size, int what) {
        if (!in(size, 0, 99) || !in(what, 0, 1)) {
            return NONE;
        }
        int set = 0;
        int[] ofKind = new int[6];
        for (int i = 0; i < w.feasts.size(); i++) {
            Feast f = w.feasts.get(i);
            if (leftOf(f.kind(), f.guests()) == size) {
                set |= 1 << i;
                ofKind[f.kind()]++;
            }
        }
        int all = Integer.bitCount(set);
        if (what == 0) {
            return set;
        }
        int best = NONE;
        for (int k = w.kinds.size() - 1; k >= 0 && all >= 2; k--) {
            if (best == NONE || Math.max(ofKind[k], all - ofKind[k]) <= Math.max(ofKind[best], all - ofKind[best])) {
                best = k;
            }
        }
        return best;
    }

    int cooks(int what) {
        if (!in(what, 0, 1)) {
            return NONE;
        }
        int best = 0;
        int most = 0;
        for (int set = 0; set < 1 << w.dishes.size(); set++) {
            int worth = 0;
            int[] stock = new int[6];
            for (Piece p : w.remains) {
                stock[p.kind()] += p.size();
            }
            for (int i = 0; i < w.dishes.size(); i++) {
                if ((set >> i & 1) == 1) {
                    worth += w.dishes.get(i).worth();
                    w.dishes.get(i).needs().forEach((k, n) -> stock[k] -= n);
                }
            }
            if (worth > most && Arrays.stream(stock).allMatch(s -> s >= 0)) {
                most = worth;
                best = set;
            }
        }
        return what == 0 ? most : best;
    }

    int waits(int place, int what) {
        if (!isPlace(place) || !in(what, 0, 1)) {
            return NONE;
        }
        Piece p = w.remains.get(place);
        int best = NONE;
        int most = NONE;
        for (int later = 0; later <= 30; later++) {
            if (w.day + later - p.born() < w.kinds.get(p.kind())[1] && priceOf(p, later) > most) {
                most = priceOf(p, later);
                best = later;
            }
        }
        return what == 0 ? best : most;
    }

    int limit(int v) {
        if (v == NONE) {
            w.limits = new ArrayList<>();
            return 0;
        }
        if (!in(v, 1, 999) || w.limits.size() == 6) {
            return NONE;
        }
        w.limits.add(v);
        return w.limits.size();
    }

    int dusk(int a, int d, int what) {
        if (!in(a, 1, 999) || !in(d, 1, 99) || !in(what, 0, 1)) {
            return NONE;
        }
        for (int price = a; price >= 1; price -= d) {
            for (int i = 0; i < w.limits.size(); i++) {
                if (w.limits.get(i) >= price) {
                    return what == 0 ? i : price;
                }
            }
        }
        return NONE;
    }

    int trade(int a, int b, int n, int m) {
        return added(w.trades, 8, a, in(a, 0, 5) && in(b, 0, 5) && a != b && in(n, 1, 9) && in(m, 1, 9), a, b, n, m);
    }

    int ring(int a, int b) {
        if (!in(a, 0, 5) || !in(b, 0, 5)) {
            return NONE;
        }
        int[] far = new int[6];
        Arrays.fill(far, 99);
        far[a] = 0;
        for (int round = 0; round < 9; round++) {
            for (int[] t : w.trades) {
                far[t[1]] = Math.min(far[t[1]], far[t[0]] + 1);
            }
        }
        return far[b] == 99 ? NONE : far[b];
    }

    int back(int a) {
        if (!in(a, 0, 5)) {
            return NONE;
        }
        int best = walk(a, a, 0, 1, 1);
        return best == 99 ? NONE : best;
    }

    int walk(int home, int now, int used, long given, long got) {
        int best = used != 0 && now == home && got > given ? Integer.bitCount(used) : 99;
        for (int i = 0; i < w.trades.size(); i++) {
            int[] t = w.trades.get(i);
            if ((used >> i & 1) == 0 && t[0] == now) {
                best = Math.min(best, walk(home, t[1], used | 1 << i, given * t[2], got * t[3]));
            }
        }
        return best;
    }

    boolean undo() {
        if (past.isEmpty()) {
            return false;
        }
        w = past.removeLast().stepBackFrom(w);
        return true;
    }

    boolean image(boolean taken) {
        if (taken) {
            image = w.copy();
        } else if (image != null) {
            w = image.copy();
            past.clear();
        }
        return image != null;
    }

    int look(int what) {
        int[] all = {w.kinds.size(), w.day, w.remains.size(), w.coin, w.fines, w.eaten, w.inspect, w.dogs, w.book.size(),
            w.state, w.law.size(), w.feasts.size(), w.wants.size(), w.dishes.size(), past.size(), w.pieces.size(),
            w.tests.size(), w.limits.size(), w.trades.size()};
        return in(what, 0, 18) ? all[what] : -1000000;
    }
}
