/** What the tests share: counting wrong answers, and telling a text by the TAPE. */
final class Check {
    private static int wrong = 0;
    private static int asked = 0;

    private Check() {
    }

    static void due(String call, long got, long want) {
        asked++;
        if (got != want) {
            wrong++;
            System.out.println(call + " answered " + got + ", due is " + want);
        }
    }

    static void due(String call, boolean got, boolean want) {
        due(call, got ? 1 : 0, want ? 1 : 0);
    }

    /** Feeds the text and cuts what the last twenty bytes hold beyond it; the TAPE must be empty ahead of it. */
    static void feed(CrustMarket x, String text) {
        int fed = 0;
        while (fed < text.length()) {
            x.feed(four(text, fed), four(text, fed + 4), four(text, fed + 8), four(text, fed + 12), four(text, fed + 16));
            fed += 20;
        }
        x.end(text.length());
    }

    static int tell(CrustMarket x, int k, String text) {
        feed(x, text);
        return x.text(k);
    }

    static void told(CrustMarket x, int k, String text, int lines) {
        due("text " + k + " '" + text + "'", tell(x, k, text), lines);
        due("fault(0) of '" + text + "'", x.fault(0), 0);
        due("fault(1) of '" + text + "'", x.fault(1), -1);
    }

    static void faulty(CrustMarket x, int k, String text, int fault, int place) {
        due("text " + k + " '" + text + "'", tell(x, k, text), -1);
        due("fault(0) of '" + text + "'", x.fault(0), fault);
        due("fault(1) of '" + text + "'", x.fault(1), place);
    }

    private static int four(String text, int from) {
        int number = 0;
        for (int i = from; i < from + 4; i++) {
            number = number << 8 | (i < text.length() ? text.charAt(i) : ' ');
        }
        return number;
    }

    static void finish(String name) {
        System.out.println(name + ": " + asked + " asked, " + wrong + " wrong");
        if (wrong != 0) {
            System.exit(1);
        }
    }
}
