/** Bounds of what THE LAW tells (12, 14, 16). Above each test stands the sentence it asks. */
public final class LawBoundsTest {
    private static final String GREATEST = sum(Integer.MAX_VALUE);

    public static void main(String[] args) {
        leftIsHeld();
        priceIsHeld();
        spoilIsHeld();
        edgeIsHeld();
        withoutALine();
        theFirstLineThatIsSo();
        theSixteenthLine();
        sums();
        intsWrap();
        partsGoTowardsNought();
        comparisons();
        conditions();
        brackets();
        factsOfAFeast();
        factsOfARemain();
        manySteps();
        Check.finish("LawBoundsTest");
    }

    private static void left(String law, int due) {
        CrustMarket x = Check.market("kind 90 keeps 30;kind 80 keeps 30;", law);
        Check.due("16 left by '" + law + "'", x.left(1, 7, false), due);
    }

    private static void so(String condition, boolean due) {
        left("left 1 when " + condition + ";left 2;", due ? 1 : 2);
    }

    // A number as a sum of such as have four digits at most.
    private static String sum(int n) {
        return "9999*9999*" + n / 99980001 + "+9999*" + n % 99980001 / 9999 + "+" + n % 99980001 % 9999;
    }

    // "left held to 0 .. WHOLE less 1"
    private static void leftIsHeld() {
        left("left 0-1;", 0);
        left("left 0-9999*9999;", 0);
        left("left 0;", 0);
        left("left 1;", 1);
        left("left whole-2;", 78);
        left("left whole-1;", 79);
        left("left whole;", 79);
        left("left 9999*9999;", 79);
        CrustMarket x = Check.market("kind 1 keeps 1;kind 2 keeps 1;kind 99 keeps 1;", "left 100;");
        Check.due("16 of a whole of 1", x.left(0, 1, false), 0);
        Check.due("16 of a whole of 2", x.left(1, 1, false), 1);
        Check.due("16 of a whole of 99", x.left(2, 1, false), 98);
    }

    private static void told(String word, String sum, int due) {
        CrustMarket x = Check.market("kind 90 keeps 30;", word + " " + sum + ";");
        x.feast(0, 1);
        boolean ofRemain = word.equals("price") || word.equals("spoil");
        int got = ofRemain ? x.remain(0, word.equals("price") ? 5 : 6) : x.left(0, 1, true);
        Check.due((ofRemain ? "14 " : "16 ") + word + " " + sum, got, due);
        if (word.equals("edge")) {
            Check.due("14 edge " + sum + " of the REMAIN", x.remain(0, 3), due);
        }
        if (word.equals("price")) {
            Check.due("8 price " + sum, x.sell(0), due);
            Check.due("8 COIN by price " + sum, x.look(3), 100 + due);
        }
    }

    // "price to 0 .. 999"
    private static void priceIsHeld() {
        told("price", "0-1", 0);
        told("price", "0", 0);
        told("price", "1", 1);
        told("price", "998", 998);
        told("price", "999", 999);
        told("price", "1000", 999);
        told("price", GREATEST, 999);
        told("price", GREATEST + "+1", 0);
    }

    // "spoil to 0 .. 1000"
    private static void spoilIsHeld() {
        told("spoil", "0-1", 0);
        told("spoil", "0", 0);
        told("spoil", "1", 1);
        told("spoil", "999", 999);
        told("spoil", "1000", 1000);
        told("spoil", "1001", 1000);
        told("spoil", GREATEST, 1000);
        CrustMarket x = Check.market("kind 90 keeps 30;", "spoil 0-1;");
        x.feast(0, 1);
        x.days(1);
        Check.due("9 below 0 no DRAW", x.look(9), 0);
    }

    // "edge to 0 .. 9"
    private static void edgeIsHeld() {
        told("edge", "0-1", 0);
        told("edge", "0", 0);
        told("edge", "1", 1);
        told("edge", "8", 8);
        told("edge", "9", 9);
        told("edge", "10", 9);
        told("edge", GREATEST + "+1", 0);
    }

    // "(none: left: whole less 5 times guests, price: size, spoil 0, edge: 3)"
    private static void withoutALine() {
        for (String law : new String[] {"", "left 0 when 1=2;price 0 when 1=2;spoil 9 when 1=2;edge 0 when 1=2;"}) {
            CrustMarket x = Check.market("kind 99 keeps 9;kind 21 keeps 9;kind 20 keeps 9;kind 1 keeps 9;", law);
            Check.due("16 99 less 5", x.left(0, 1, false), 94);
            Check.due("16 99 less 95", x.left(0, 19, false), 4);
            Check.due("16 99 less 100", x.left(0, 20, false), 0);
            Check.due("16 21 less 20", x.left(1, 4, false), 1);
            Check.due("16 20 less 20", x.left(2, 4, false), 0);
            Check.due("16 1 less 5", x.left(3, 1, false), 0);
            Check.due("16 edge", x.left(0, 1, true), 3);
            x.feast(0, 1);
            Check.due("14 price", x.remain(0, 5), 94);
            Check.due("14 spoil", x.remain(0, 6), 0);
            Check.due("14 EDGES", x.remain(0, 3), 3);
        }
    }

    // "E of the first line with that word whose B is so, or that has none"
    private static void theFirstLineThatIsSo() {
        left("left 5;left 6;", 5);
        left("left 5 when 1=2;left 6;left 7;", 6);
        left("left 5 when 1=1;left 6;", 5);
        left("left 5 when 1=2;left 6 when 2=1;left 7 when 1=1;", 7);
        left("price 5;spoil 6;edge 7;", 45);
        left("edge 7;left 8;", 8);
        left("left 0;left 5;", 0);
    }

    private static void theSixteenthLine() {
        left("left 1 when 1=2;".repeat(15) + "left 3*guests+2*guests-1;", 34);
        left("left 1 when 1=2;".repeat(15) + "left 3 when not (1=2 and 1=1);", 3);
        CrustMarket x = Check.market("kind 90 keeps 30;", "price 1;".repeat(13) + "left 2;spoil 3;edge 4;");
        x.feast(0, 1);
        Check.remain("14 each word has its line", x, 0, 0, 2, 0, 4, 0, 1, 3);
    }

    // "E = T {(+ | -) T}.  T = U {* U | / NUMBER}."
    private static void sums() {
        left("left 20-5-3;", 12);
        left("left 20-5+3;", 18);
        left("left 2+3*4;", 14);
        left("left 2*3+4;", 10);
        left("left 30-2*3*4;", 6);
        left("left 7/2*2;", 6);
        left("left 7*2/2;", 7);
        left("left 60/2/3;", 10);
        left("left 60-20/3*3-1;", 41);
        left("left 1*2*3*4*3;", 72);
        left("left 9999-9998;", 1);
    }

    // "Ints, which wrap"
    private static void intsWrap() {
        so(GREATEST + ">0", true);
        so(GREATEST + "+1<0", true);
        so(GREATEST + "+1+9999*9999*21+9999*4790+8416=0-1", true);
        so("0-9999*9999*21-9999*4790-8416-1<0", true);
        so("0-9999*9999*21-9999*4790-8416-1=" + GREATEST + "+1", true);
        so("0-9999*9999*21-9999*4790-8416-2=" + GREATEST, true);
        // 9999 * 9999 * 9999 is 999700029999, 3267617327 modulo 2 to the 32nd, so -1027349969.
        so("9999*9999*9999+" + sum(1027349969) + "=0", true);
        so("9999*9999*9999<0", true);
    }

    // "/ goes towards 0"
    private static void partsGoTowardsNought() {
        left("left 7/2;", 3);
        left("left 1/2;", 0);
        left("left 9999/9999;", 1);
        left("left 9998/9999;", 0);
        // -1027349969 by 2: -513674984 towards 0, -513674985 downwards.
        so("9999*9999*9999/2+" + sum(513674984) + "=0", true);
        so("9999*9999*9999/2+" + sum(513674985) + "=0", false);
        so("0-9999*9999*9999/2=" + sum(513674984), true);
        // By 9999 -102745.27, so -102745.
        so("9999*9999*9999/9999+" + sum(102745) + "=0", true);
    }

    // "C = E (< | = | >) E"
    private static void comparisons() {
        String[] signs = {"<", "=", ">"};
        for (int i = 0; i < 3; i++) {
            so("6" + signs[i] + "7", i == 0);
            so("7" + signs[i] + "7", i == 1);
            so("8" + signs[i] + "7", i == 2);
            so("guests" + signs[i] + "1+3*2", i == 1);
            so("0-1" + signs[i] + "0", i == 0);
        }
    }

    // "B = A {or A}.  A = C {and C}.  C = .. | not C"
    private static void conditions() {
        String[] words = {"1=2", "1=1"};
        for (int a = 0; a < 2; a++) {
            so("not " + words[a], a == 0);
            so("not not " + words[a], a == 1);
            for (int b = 0; b < 2; b++) {
                so(words[a] + " and " + words[b], a == 1 && b == 1);
                so(words[a] + " or " + words[b], a == 1 || b == 1);
                so("not " + words[a] + " and " + words[b], a == 0 && b == 1);
                so("not " + words[a] + " or " + words[b], a == 0 || b == 1);
                for (int c = 0; c < 2; c++) {
                    so(words[a] + " or " + words[b] + " and " + words[c], a == 1 || b == 1 && c == 1);
                    so(words[a] + " and " + words[b] + " or " + words[c], a == 1 && b == 1 || c == 1);
                    so(words[a] + " and " + words[b] + " and " + words[c], a == 1 && b == 1 && c == 1);
                    so(words[a] + " or " + words[b] + " or " + words[c], a == 1 || b == 1 || c == 1);
                }
            }
        }
    }

    // "C = .. | ( B )"
    private static void brackets() {
        String[] words = {"1=2", "1=1"};
        for (int a = 0; a < 2; a++) {
            so("(" + words[a] + ")", a == 1);
            so("not (" + words[a] + ")", a == 0);
            for (int b = 0; b < 2; b++) {
                so(words[a] + " and (" + words[b] + ")", a == 1 && b == 1);
                so(words[a] + " or (" + words[b] + ")", a == 1 || b == 1);
                so("(" + words[a] + ") and (" + words[b] + ")", a == 1 && b == 1);
                so("not (" + words[a] + " or " + words[b] + ")", a == 0 && b == 0);
                so("not (" + words[a] + ") or " + words[b], a == 0 || b == 1);
                for (int c = 0; c < 2; c++) {
                    so("(" + words[a] + " or " + words[b] + ") and " + words[c], (a == 1 || b == 1) && c == 1);
                    so(words[a] + " and (" + words[b] + " or " + words[c] + ")", a == 1 && (b == 1 || c == 1));
                    so(words[a] + " and not (" + words[b] + " and " + words[c] + ")", a == 1 && !(b == 1 && c == 1));
                }
            }
        }
        so("1=1 and(".repeat(8) + "1=2" + ")".repeat(8), false);
        so("1=2 or(".repeat(8) + "1=1" + ")".repeat(8), true);
        so("1=2 or 1=1 and(".repeat(8) + "2+3*4=15-1" + ")".repeat(8), true);
        so("1=2 or 1=1 and(".repeat(8) + "2+3*4=15-2" + ")".repeat(8), false);
        so("not(".repeat(4) + "1=1" + ")".repeat(4), true);
    }

    // "left, edge of a feast: kind, whole, guests; day (size, age, edges 0)."
    private static void factsOfAFeast() {
        CrustMarket x = Check.market("kind 90 keeps 30;kind 80 keeps 30;",
            "price size;left size+age+edges when guests=1;left kind when guests=2;left whole-9 when guests=3;left guests when guests=4;left day;edge size+age+edges when guests=1;edge kind+4 when guests=2;edge day+2;");
        x.feast(1, 4);
        x.days(3);
        Check.remain("14 none of it is 0", x, 0, 1, 4, 0, 2);
        Check.due("14 of a REMAIN ahead", x.remain(0, 5), 4);
        Check.due("16 size, age, edges are 0", x.left(1, 1, false), 0);
        Check.due("14 of a REMAIN ahead", x.remain(0, 5), 4);
        Check.due("16 and for edge", x.left(1, 1, true), 0);
        Check.due("16 KIND 0", x.left(0, 2, false), 0);
        Check.due("16 KIND 1", x.left(1, 2, false), 1);
        Check.due("16 KIND 0 by edge", x.left(0, 2, true), 4);
        Check.due("16 KIND 1 by edge", x.left(1, 2, true), 5);
        Check.due("16 WHOLE of 0", x.left(0, 3, false), 81);
        Check.due("16 WHOLE of 1", x.left(1, 3, false), 71);
        Check.due("16 guests", x.left(1, 4, false), 4);
        Check.due("16 DAY", x.left(1, 20, false), 3);
        Check.due("16 DAY by edge", x.left(1, 20, true), 5);
    }

    // "price, spoil of a REMAIN: kind, whole: its KIND's; size; age: DAY less BORN; edges; day (guests 0)."
    private static void factsOfARemain() {
        String[] facts = {"kind", "whole", "guests", "size", "age", "edges", "day"};
        int[][] due = {{0, 90, 0, 85, 3, 3, 5}, {1, 80, 0, 75, 0, 3, 5}};
        for (int i = 0; i < facts.length; i++) {
            CrustMarket x = Check.market("kind 90 keeps 30;kind 80 keeps 30;");
            x.days(2);
            x.feast(0, 1);
            x.days(3);
            x.feast(1, 1);
            Check.tell(x, 1, "price 100+" + facts[i] + ";spoil 200+" + facts[i] + ";");
            for (int place = 1; place >= 0; place--) {
                x.left(1 - place, 9, false);
                Check.due("14 price by " + facts[i] + " at " + place, x.remain(place, 5), 100 + due[place][i]);
                x.left(1 - place, 9, true);
                Check.due("14 spoil by " + facts[i] + " at " + place, x.remain(place, 6), 200 + due[place][i]);
            }
        }
    }

    // THE LAW may fill the TAPE of 400 bytes.
    private static void manySteps() {
        left("left 1" + "+1".repeat(60) + "-1".repeat(40) + ";", 21);
        left("left 0" + "+1".repeat(190) + "-9*9*2;", 28);
        so("1=1" + " and 1=1".repeat(46), true);
        so("1=1" + " and 1=1".repeat(45) + " and 1=2", false);
        so("1=2" + " or 1=2".repeat(52), false);
        so("1=2" + " or 1=2".repeat(51) + " or 1=1", true);
    }
}
