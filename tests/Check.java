/** What the tests share: counting wrong answers, telling a text by the TAPE, asking for whole rows. */
final class Check {
    private static int wrong = 0;
    private static int asked = 0;

    private Check() {
    }

    /** Calls on a market: what makes it ready, or one call that is watched. */
    interface Calls {
        void on(CrustMarket x);
    }

    static void due(String call, long got, long want) {
        asked++;
        if (got != want) {
            wrong++;
            System.out.println(call + " answered " + got + ", due is " + want);
        }
    }

    static void due(String call, boolean got, boolean want) {
        due(call, got ? 1 : 0, want ? 1 : 0);
    }

    /** Feeds the text and cuts what the last twenty bytes hold beyond it; the TAPE must be empty ahead of it. */
    static void feed(CrustMarket x, String text) {
        int fed = 0;
        while (fed < text.length()) {
            x.feed(four(text, fed), four(text, fed + 4), four(text, fed + 8), four(text, fed + 12), four(text, fed + 16));
            fed += 20;
        }
        x.end(text.length());
    }

    static int tell(CrustMarket x, int k, String text) {
        feed(x, text);
        return x.text(k);
    }

    /** A new market with TEXT 0, 1 .. as they stand here. */
    static CrustMarket market(String... texts) {
        CrustMarket x = new CrustMarket();
        for (int k = 0; k < texts.length; k++) {
            due("12 text " + k + " '" + texts[k] + "' has no FAULT", tell(x, k, texts[k]) >= 0, true);
        }
        return x;
    }

    /** A market of two KINDS of 99 that keep 30, with forged REMAINS of these SIZES: of KIND 0, those below 0 of KIND 1. */
    static CrustMarket forged(int... sizes) {
        CrustMarket x = market("kind 99 keeps 30;kind 99 keeps 30;");
        x.set(0, 9999);
        for (int size : sizes) {
            x.forge(size < 0 ? 1 : 0, Math.abs(size));
        }
        return x;
    }

    static void told(CrustMarket x, int k, String text, int lines) {
        due("12 text " + k + " '" + text + "'", tell(x, k, text), lines);
        due("13 fault(0) of '" + text + "'", x.fault(0), 0);
        due("13 fault(1) of '" + text + "'", x.fault(1), -1);
    }

    static void faulty(CrustMarket x, int k, String text, int fault, int place) {
        due("12 text " + k + " '" + text + "'", tell(x, k, text), -1);
        due("13 fault(0) of '" + text + "'", x.fault(0), fault);
        due("13 fault(1) of '" + text + "'", x.fault(1), place);
    }

    /** What 0, 1 .. of a REMAIN. */
    static void remain(String name, CrustMarket x, int place, int... due) {
        for (int what = 0; what < due.length; what++) {
            due(name + " remain " + place + " what " + what, x.remain(place, what), due[what]);
        }
    }

    /** SIZES of all REMAINS, by places. */
    static void sizes(String name, CrustMarket x, int... due) {
        due(name + " REMAINS", x.look(2), due.length);
        for (int place = 0; place < due.length; place++) {
            due(name + " SIZE at " + place, x.remain(place, 1), due[place]);
        }
    }

    /** What 0, 1 .. of a line of THE BOOK. */
    static void line(String name, CrustMarket x, int line, int... due) {
        for (int what = 0; what < due.length; what++) {
            due(name + " book " + line + " what " + what, x.book(line, what), due[what]);
        }
    }

    /** Tells STATE so that the next DRAW is this number (of 24 bits) modulo m. */
    static void nextDraw(CrustMarket x, int highest) {
        x.state(before(highest << 8));
    }

    /** The STATE that becomes this one by a DRAW: 0xfee058c5 times 1664525 is 1 in ints. */
    static int before(int state) {
        return (state - 1013904223) * 0xfee058c5;
    }

    private static int four(String text, int from) {
        int number = 0;
        for (int i = from; i < from + 4; i++) {
            number = number << 8 | (i < text.length() ? text.charAt(i) : ' ');
        }
        return number;
    }

    static void finish(String name) {
        System.out.println(name + ": " + asked + " asked, " + wrong + " wrong");
        if (wrong != 0) {
            System.exit(1);
        }
    }
}
