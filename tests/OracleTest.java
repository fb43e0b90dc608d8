import java.util.Random;

/** Long random runs on the class and on the Oracle side by side: each answer must be the same. */
public final class OracleTest {
    private static final int[] STRANGE = {-1, 0, -2, 1000, 1001, 10000, -10000, Integer.MAX_VALUE, Integer.MIN_VALUE, 100, 15};
    private static final String[] NAMES = {"state", "set", "feast", "forge", "cut", "join", "sell", "days", "end", "fault",
        "remain", "kind", "left", "want", "book", "goes", "joins", "most", "piece", "cuts", "stalls", "test", "forged",
        "lookAt", "crumbs", "cooks", "waits", "limit", "dusk", "trade", "ring", "back", "undo", "image", "look"};
    private static Random random;
    private static int kinds;

    public static void main(String[] args) {
        int runs = args.length > 0 ? Integer.parseInt(args[0]) : 400;
        for (int seed = 0; seed < runs; seed++) {
            random = new Random(seed);
            run(seed);
        }
        Check.finish("OracleTest");
    }

    private static void run(int seed) {
        CrustMarket x = new CrustMarket();
        Oracle o = new Oracle();
        int calls = 0;
        kinds = 1 + random.nextInt(6);
        boolean busy = random.nextInt(3) == 0;
        for (int k = 0; k < 5; k++) {
            calls += tell(seed, x, o, k, goodText(k));
        }
        while (calls < 490) {
            if (random.nextInt(40) == 0) {
                int k = random.nextInt(random.nextInt(4) == 0 ? 7 : 5);
                if (k == 0 && random.nextInt(3) != 0) {
                    k = 1;
                }
                String text = goodText(k);
                calls += tell(seed, x, o, k, random.nextInt(3) == 0 ? spoilt(text) : text);
            } else {
                int which = busy && random.nextInt(2) == 0 ? 2 + random.nextInt(3) : random.nextInt(NAMES.length);
                boolean rare = which == 1 && random.nextInt(4) != 0 || which == 0 && random.nextInt(4) != 0
                    || which == 33 && random.nextInt(2) != 0 || busy && which == 7 && random.nextInt(4) != 0;
                if (!rare) {
                    one(seed, x, o, which);
                    calls++;
                }
            }
            if (calls % 16 == 0) {
                calls += compareAll(seed, x, o);
            }
        }
    }

    private static int compareAll(int seed, CrustMarket x, Oracle o) {
        for (int i = -1; i < 20; i++) {
            Check.due("seed " + seed + " look " + i, x.look(i), o.look(i));
            for (int what = 0; what < 7; what++) {
                Check.due("seed " + seed + " remain " + i + " " + what, x.remain(i, what), o.remain(i, what));
            }
        }
        for (int i = Math.max(0, o.look(8) - 20); i <= o.look(8); i++) {
            for (int what = 0; what < 4; what++) {
                Check.due("seed " + seed + " book " + i + " " + what, x.book(i, what), o.book(i, what));
            }
        }
        for (int i = 0; i < 13; i++) {
            Check.due("seed " + seed + " want " + i, x.want(i, 4), o.want(i, 4));
        }
        return 1;
    }

    private static int number(int low, int high) {
        return random.nextInt(25) == 0 ? STRANGE[random.nextInt(STRANGE.length)] : low + random.nextInt(high - low + 1);
    }

    private static void one(int seed, CrustMarket x, Oracle o, int which) {
        int a = 0;
        int b = 0;
        int c = 0;
        int d = 0;
        long got;
        long want;
        switch (NAMES[which]) {
            case "state": a = random.nextInt(); got = x.state(a); want = o.state(a); break;
            case "set": a = number(0, 2); b = number(a == 0 ? -50 : 0, 1000); got = x.set(a, b) ? 1 : 0; want = o.set(a, b) ? 1 : 0; break;
            case "feast": a = number(0, kinds - 1); b = number(1, 9); got = x.feast(a, b); want = o.feast(a, b); break;
            case "forge": a = number(0, kinds - 1); b = number(1, 50); got = x.forge(a, b); want = o.forge(a, b); break;
            case "cut": a = number(0, 13); b = number(1, 30); got = x.cut(a, b); want = o.cut(a, b); break;
            case "join": a = number(0, 9); b = number(0, 9); got = x.join(a, b); want = o.join(a, b); break;
            case "sell": a = number(0, 13); got = x.sell(a); want = o.sell(a); break;
            case "days": a = number(1, random.nextInt(20) == 0 ? 60 : 3); got = x.days(a); want = o.days(a); break;
            case "end": a = number(0, 20); got = x.end(a) ? 1 : 0; want = o.end(a) ? 1 : 0; break;
            case "fault": a = number(0, 1); got = x.fault(a); want = o.fault(a); break;
            case "remain": a = number(0, 13); b = number(0, 6); got = x.remain(a, b); want = o.remain(a, b); break;
            case "kind": a = number(0, kinds - 1); b = number(0, 3); got = x.kind(a, b); want = o.kind(a, b); break;
            case "left": a = number(0, kinds - 1); b = number(1, 20); got = x.left(a, b, a == b); want = o.left(a, b, a == b); break;
            case "want": a = number(0, 11); b = number(0, 4); got = x.want(a, b); want = o.want(a, b); break;
            case "book": a = number(0, 149); b = number(0, 3); got = x.book(a, b); want = o.book(a, b); break;
            case "goes": a = number(1, 30); b = number(0, 3); got = x.goes(a, b); want = o.goes(a, b); break;
            case "joins": a = number(0, kinds - 1); b = number(1, 99); c = number(0, 1); got = x.joins(a, b, c); want = o.joins(a, b, c); break;
            case "most": a = number(0, kinds - 1); b = number(1, 300); c = number(0, 2); got = x.most(a, b, c); want = o.most(a, b, c); break;
            case "piece": a = number(4, 30); b = number(1, 40); got = x.piece(a, b); want = o.piece(a, b); break;
            case "cuts": a = number(0, 99); b = random.nextInt(2) * number(10, 16); got = x.cuts(a, b); want = o.cuts(a, b); break;
            case "stalls": a = number(20, 99); got = x.stalls(a); want = o.stalls(a); break;
            case "test": a = number(1, 999); b = number(1, 999); got = x.test(a, b); want = o.test(a, b); break;
            case "forged": a = number(0, 1000); b = number(0, 15); c = number(0, 15) & (random.nextInt(4) == 0 ? -1 : ~b); got = x.forged(a, b, c); want = o.forged(a, b, c); break;
            case "lookAt": a = number(0, 1000); got = x.lookAt(a); want = o.lookAt(a); break;
            case "crumbs": a = number(0, random.nextInt(2) == 0 ? 0 : 40); b = number(0, 1); got = x.crumbs(a, b); want = o.crumbs(a, b); break;
            case "cooks": a = number(0, 1); got = x.cooks(a); want = o.cooks(a); break;
            case "waits": a = number(0, 9); b = number(0, 1); got = x.waits(a, b); want = o.waits(a, b); break;
            case "limit": a = number(1, 99); got = x.limit(a); want = o.limit(a); break;
            case "dusk": a = number(1, 200); b = number(1, 40); c = number(0, 1); got = x.dusk(a, b, c); want = o.dusk(a, b, c); break;
            case "trade": a = number(0, 5); b = number(0, 5); c = number(1, 9); d = number(1, 9); got = x.trade(a, b, c, d); want = o.trade(a, b, c, d); break;
            case "ring": a = number(0, 5); b = number(0, 5); got = x.ring(a, b); want = o.ring(a, b); break;
            case "back": a = number(0, 5); got = x.back(a); want = o.back(a); break;
            case "undo": got = x.undo() ? 1 : 0; want = o.undo() ? 1 : 0; break;
            case "image": a = random.nextInt(2); got = x.image(a == 0) ? 1 : 0; want = o.image(a == 0) ? 1 : 0; break;
            default: a = number(0, 18); got = x.look(a); want = o.look(a); break;
        }
        Check.due("seed " + seed + " " + NAMES[which] + " " + a + " " + b + " " + c + " " + d, got, want);
    }

    private static int tell(int seed, CrustMarket x, Oracle o, int k, String text) {
        String cut = text.length() > 400 ? text.substring(0, 400) : text;
        o.end(0);
        x.end(0);
        int calls = 2;
        for (int i = 0; i < cut.length() + 20; i += 20) {
            int[] five = new int[5];
            for (int j = 0; j < 20; j++) {
                five[j / 4] = five[j / 4] << 8 | (i + j < cut.length() ? cut.charAt(i + j) : 32);
            }
            int got = x.feed(five[0], five[1], five[2], five[3], five[4]);
            Check.due("seed " + seed + " feed", got, o.feed(five));
            calls++;
        }
        Check.due("seed " + seed + " end " + cut.length(), x.end(cut.length()), o.end(cut.length()));
        Check.due("seed " + seed + " text " + k + " '" + cut + "'", x.text(k), o.text(k));
        Check.due("seed " + seed + " fault 0 of '" + cut + "'", x.fault(0), o.fault(0));
        Check.due("seed " + seed + " fault 1 of '" + cut + "'", x.fault(1), o.fault(1));
        return calls + 4;
    }

    private static String spoilt(String text) {
        StringBuilder s = new StringBuilder(text);
        String signs = ";+-*/()<=>.0123456789 \nabkX" + (char) 200 + (char) 1 + (char) 9;
        for (int times = 1 + random.nextInt(2); times > 0; times--) {
            int at = random.nextInt(s.length() + 1);
            char sign = signs.charAt(random.nextInt(signs.length()));
            switch (random.nextInt(4)) {
                case 0: s.insert(at, sign); break;
                case 1: s.setLength(at); break;
                case 2: if (at < s.length()) { s.setCharAt(at, sign); } break;
                default: if (at < s.length()) { s.deleteCharAt(at); } break;
            }
        }
        return s.toString();
    }

    private static String goodText(int k) {
        StringBuilder s = new StringBuilder();
        int most = k == 0 ? 6 : k == 1 ? 16 : 12;
        int lines = random.nextInt(15) == 0 ? most + random.nextInt(2) : random.nextInt(k == 0 ? 7 : 9);
        if (k == 0) {
            lines = lines > most ? lines : kinds;
        }
        for (int i = 0; i < lines; i++) {
            switch (k) {
                case 0: s.append("kind ").append(any(1, 99)).append(" keeps ").append(any(1, random.nextInt(2) == 0 ? 6 : 30)); break;
                case 1: lawLine(s); break;
                case 2: s.append("on ").append(any(0, 40)).append(" feast ").append(any(0, kinds - 1)).append(" for ").append(any(1, random.nextInt(3) == 0 ? 20 : 5)); break;
                case 3: s.append("want ").append(any(0, kinds - 1)).append(' ').append(any(1, random.nextInt(2) == 0 ? 99 : 40)).append(" by ").append(any(0, 60)).append(" pays ").append(any(0, 99)); break;
                default: dishLine(s); break;
            }
            s.append(random.nextInt(9) == 0 ? " ;\n" : ";");
        }
        return s.toString();
    }

    private static int any(int low, int high) {
        return random.nextInt(150) == 0 ? random.nextInt(10001) : low + random.nextInt(high - low + 1);
    }

    private static void dishLine(StringBuilder s) {
        s.append("dish ").append(any(1, 20));
        int parts = random.nextInt(Math.min(5, kinds + 1));
        int first = random.nextInt(kinds);
        for (int j = 0; j < parts; j++) {
            s.append(' ').append((first + j) % kinds).append(' ').append(any(1, random.nextInt(2) == 0 ? 10 : 60));
        }
        if (random.nextInt(60) == 0) {
            s.append(" 0 1 1 2 2 3 3 4 4 5");
        }
    }

    private static void lawLine(StringBuilder s) {
        String[] words = {"left ", "price ", "spoil ", "edge "};
        s.append(words[random.nextInt(4)]);
        sum(s);
        if (random.nextInt(2) == 0) {
            s.append(" when ");
            either(s, 0);
        }
    }

    private static void either(StringBuilder s, int depth) {
        condition(s, depth);
        while (random.nextInt(3) == 0) {
            s.append(random.nextInt(2) == 0 ? " or " : " and ");
            condition(s, depth);
        }
    }

    private static void condition(StringBuilder s, int depth) {
        int sort = random.nextInt(depth > 9 ? 1 : 5);
        if (sort == 4) {
            s.append("not ");
            condition(s, depth + 1);
        } else if (sort == 3) {
            s.append('(');
            either(s, depth + 1);
            s.append(')');
        } else {
            sum(s);
            s.append("<=>".charAt(random.nextInt(3)));
            sum(s);
        }
    }

    private static void sum(StringBuilder s) {
        unit(s);
        while (random.nextInt(5) < 2) {
            char sign = "+-*/*".charAt(random.nextInt(5));
            s.append(sign);
            if (sign == '/') {
                s.append(any(random.nextInt(40) == 0 ? 0 : 1, 12));
            } else {
                unit(s);
            }
        }
    }

    private static void unit(StringBuilder s) {
        String[] facts = {"kind", "whole", "guests", "size", "age", "edges", "day"};
        if (random.nextInt(3) == 0) {
            s.append(random.nextInt(4) == 0 ? any(0, 9999) : any(0, 30));
        } else {
            s.append(facts[random.nextInt(7)]);
        }
    }
}
