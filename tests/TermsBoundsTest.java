/** Bounds of the terms ahead of the promises: quotients, DRAWS, ==== 1. Above each test stands the sentence it asks. */
public final class TermsBoundsTest {
    public static void main(String[] args) {
        quotientsGoDownwards();
        stateIsAnInt();
        drawsWrap();
        drawsAreOfTheHighestBits();
        kindsAreSix();
        wholes();
        keeps();
        fourteenRemains();
        fourteenRemainsByForging();
        fourteenRemainsByCutting();
        aNewOneIsAtTheEnd();
        thoseBehindAreOnePlaceLess();
        edgesAreNoughtToNine();
        numbersAtFirst();
        theLastDay();
        Check.finish("TermsBoundsTest");
    }

    // "Quotients go downwards."
    private static void quotientsGoDownwards() {
        CrustMarket x = Check.forged(1, 1, 1, 2, 9, 2);
        Check.due("7 nine tenths of 2 are 1", x.join(0, 1), 1);
        Check.due("7 nine tenths of 3 are 2", x.join(1, 2), 2);
        Check.due("7 nine tenths of 11 are 9", x.join(2, 3), 9);
        CrustMarket y = Check.forged(5, 6);
        Check.due("20 nine tenths of 11 are not 10", y.joins(0, 10, 0), -1);
        Check.due("20 nine tenths of 11 are 9", y.joins(0, 9, 0), 2);
        Check.tell(y, 1, "left 3;");
        Check.due("21 nine tenths of 6 are 5", y.most(0, 5, 2), 2);
        Check.due("21 nine tenths of 6 are not 6", y.most(0, 6, 2), 3);
        y.test(700, 100);
        y.test(700, 300);
        // 990000 by the first 933962.26, of 933962 by the second 858380.67; not cut in between it were 858381.
        Check.due("26 downwards behind each test", y.forged(990, 1, 0), 933962);
        Check.due("26 downwards, test by test", y.forged(990, 3, 0), 858380);
    }

    // "STATE of draws (an int, 0 at first)"
    private static void stateIsAnInt() {
        CrustMarket x = new CrustMarket();
        Check.due("2 at first", x.state(Integer.MAX_VALUE), 0);
        Check.due("38 the greatest", x.look(9), Integer.MAX_VALUE);
        Check.due("2 the greatest", x.state(Integer.MIN_VALUE), Integer.MAX_VALUE);
        Check.due("38 the least", x.look(9), Integer.MIN_VALUE);
        Check.due("2 the least", x.state(-1), Integer.MIN_VALUE);
        Check.due("2 below 0", x.state(0), -1);
    }

    // "it becomes 1664525 times itself + 1013904223 (ints, which wrap)"
    private static void drawsWrap() {
        int[] states = {0, 1, -1, 123456789, Integer.MAX_VALUE, Integer.MIN_VALUE};
        for (int state : states) {
            CrustMarket x = Check.market("kind 99 keeps 30;");
            x.set(1, 1);
            x.state(state);
            x.days(1);
            Check.due("9 STATE behind a DRAW from " + state, x.look(9), (int) (1664525L * state + 1013904223L));
        }
    }

    private static boolean spoils(int spoil, int state) {
        CrustMarket x = Check.market("kind 99 keeps 30;", "spoil " + spoil + ";");
        x.feast(0, 1);
        x.state(Check.before(state));
        x.days(1);
        Check.due("9 one DRAW", x.look(9), state);
        return x.look(2) == 0;
    }

    // "then it is its highest 24 bits (without sign) modulo m"
    private static void drawsAreOfTheHighestBits() {
        Check.due("9 0 is below 1", spoils(1, 0), true);
        Check.due("9 the lowest eight bits do not count", spoils(1, 255), true);
        Check.due("9 1 is not below 1", spoils(1, 256), false);
        Check.due("9 1000 modulo 1000 is 0", spoils(1, 1000 << 8), true);
        Check.due("9 998 is below 999", spoils(999, 998 << 8), true);
        Check.due("9 999 is not below 999", spoils(999, 999 << 8), false);
        Check.due("9 999 is below 1000", spoils(1000, 999 << 8), true);
        // 16777215 modulo 1000 is 215, 8388608 modulo 1000 is 608.
        Check.due("9 all bits: 215", spoils(215, -1), false);
        Check.due("9 all bits: below 216", spoils(216, -1), true);
        Check.due("9 the highest bit: 608", spoils(608, Integer.MIN_VALUE), false);
        Check.due("9 the highest bit: below 609", spoils(609, Integer.MIN_VALUE), true);
    }

    // "KINDS 0 .. 5 as told"
    private static void kindsAreSix() {
        CrustMarket none = new CrustMarket();
        Check.due("15 none told", none.kind(0, 0), -1);
        Check.due("4 none told", none.feast(0, 1), -1);
        CrustMarket x = Check.market("kind 10 keeps 1;kind 20 keeps 2;kind 30 keeps 3;kind 40 keeps 4;kind 50 keeps 5;kind 60 keeps 6;");
        for (int k = 0; k < 6; k++) {
            Check.due("15 WHOLE of " + k, x.kind(k, 0), 10 * k + 10);
            Check.due("15 KEEPS of " + k, x.kind(k, 1), k + 1);
        }
        Check.due("15 no KIND 6", x.kind(6, 0), -1);
        Check.due("4 KIND 5", x.feast(5, 1), 55);
        Check.due("4 no KIND 6", x.feast(6, 1), -1);
        Check.due("5 KIND 5", x.forge(5, 1), 1);
        Check.due("5 no KIND 6", x.forge(6, 1), -1);
        Check.due("16 KIND 5", x.left(5, 1, false), 55);
        Check.due("16 no KIND 6", x.left(6, 1, false), -1);
        Check.due("20 KIND 5", x.joins(5, 1, 0), 1);
        Check.due("20 no KIND 6", x.joins(6, 1, 0), -1);
        Check.due("21 KIND 5", x.most(5, 1, 1), 55);
        Check.due("21 no KIND 6", x.most(6, 1, 1), -1);
    }

    // "WHOLE 1 .. 99", "a SIZE 1 .. 99"
    private static void wholes() {
        CrustMarket x = Check.market("kind 1 keeps 1;kind 99 keeps 1;kind 2 keeps 1;", "left 99;");
        Check.due("4 of a whole of 1 nothing is left", x.feast(0, 1), 0);
        Check.due("4 of a whole of 99 98 are", x.feast(1, 1), 98);
        Check.due("4 of a whole of 2 1 is", x.feast(2, 1), 1);
        Check.due("5 a whole of 1 is not forged", x.forge(0, 1), -1);
        Check.due("5 of 99 98 are", x.forge(1, 98), 2);
        Check.due("5 99 are not", x.forge(1, 99), -1);
        Check.due("7 98 and 98 are 99", x.join(0, 2), 99);
        Check.due("14 SIZE 99", x.remain(0, 1), 99);
        Check.due("6 98 of 99", x.cut(0, 98), 2);
        Check.due("14 SIZE 1", x.remain(2, 1), 1);
    }

    // "KEEPS 1 .. 30 days"
    private static void keeps() {
        CrustMarket x = Check.market("kind 9 keeps 1;kind 9 keeps 30;");
        x.feast(0, 1);
        x.feast(1, 1);
        x.days(1);
        Check.due("9 at age 0 both stay", x.look(2), 2);
        x.days(1);
        Check.due("9 at age 1 KEEPS 1 goes", x.kind(0, 2), 0);
        Check.due("9 at age 1 KEEPS 30 stays", x.kind(1, 2), 1);
        x.days(28);
        Check.due("9 at age 29 it stays", x.look(2), 1);
        x.days(1);
        Check.due("9 at age 30 it goes", x.look(2), 0);
    }

    private static CrustMarket thirteen() {
        CrustMarket x = Check.market("kind 99 keeps 30;");
        x.set(0, 9999);
        for (int i = 1; i <= 13; i++) {
            x.forge(0, 10 + i);
        }
        Check.due("38 thirteen", x.look(2), 13);
        return x;
    }

    // "REMAINS, 14 at most"
    private static void fourteenRemains() {
        CrustMarket x = thirteen();
        Check.due("4 the 14th", x.feast(0, 1), 94);
        Check.due("4 the 15th is lost", x.feast(0, 1), 0);
        Check.due("38 fourteen", x.look(2), 14);
        Check.due("38 EATEN by both", x.look(5), 2);
        Check.due("38 both in THE BOOK", x.look(8), 15);
        Check.line("18 lost", x, 14, 0, 0, 0, 0);
        Check.due("7 without room two are joined", x.join(0, 1), 20);
        Check.due("4 room again", x.feast(0, 1), 94);
        Check.due("4 none again", x.feast(0, 1), 0);
    }

    // "REMAINS, 14 at most" and "(FORGE, CUT: no room: it can't be.)"
    private static void fourteenRemainsByForging() {
        CrustMarket x = thirteen();
        Check.due("5 the 14th", x.forge(0, 1), 13);
        Check.due("5 no room for the 15th", x.forge(0, 1), -1);
        Check.due("6 no room for the 15th", x.cut(0, 1), -1);
        Check.due("38 COIN for fourteen", x.look(3), 9999 - 14 * 20);
        x.sell(13);
        Check.due("5 room again", x.forge(0, 1), 13);
    }

    private static void fourteenRemainsByCutting() {
        CrustMarket x = thirteen();
        Check.due("6 the 14th", x.cut(0, 1), 13);
        Check.due("6 no room for the 15th", x.cut(1, 1), -1);
        Check.due("14 it stays whole", x.remain(1, 1), 12);
        Check.due("14 its edges stay", x.remain(1, 3), 9);
        x.join(0, 13);
        Check.due("6 room again", x.cut(1, 1), 13);
    }

    // "they are told by places 0 .. n - 1 (a new one at the end"
    private static void aNewOneIsAtTheEnd() {
        CrustMarket x = Check.market("kind 50 keeps 30;");
        Check.due("14 no place 0", x.remain(0, 0), -1);
        x.feast(0, 1);
        Check.due("14 place 0", x.remain(0, 1), 45);
        Check.due("14 no place 1", x.remain(1, 1), -1);
        Check.due("5 at the end", x.forge(0, 7), 1);
        Check.due("6 at the end", x.cut(0, 5), 2);
        x.feast(0, 2);
        Check.sizes("14", x, 5, 7, 40, 40);
        Check.due("14 no place 4", x.remain(4, 1), -1);
        Check.due("14 no place -1", x.remain(-1, 1), -1);
    }

    // "one that goes: those behind it are one place less)"
    private static void thoseBehindAreOnePlaceLess() {
        CrustMarket x = Check.forged(1, 2, 3, 4, 5, 6);
        x.sell(0);
        Check.sizes("8 the first goes", x, 2, 3, 4, 5, 6);
        x.sell(2);
        Check.sizes("8 the midst goes", x, 2, 3, 5, 6);
        x.sell(3);
        Check.sizes("8 the last goes", x, 2, 3, 5);
        CrustMarket y = Check.forged(10, 20, 30, 40);
        Check.due("7 the later one goes", y.join(0, 2), 36);
        Check.sizes("7 the later one goes", y, 36, 20, 40);
        Check.due("7 the earlier one goes", y.join(2, 1), 54);
        Check.sizes("7 the earlier one goes", y, 36, 54);
        Check.due("7 the first goes", y.join(1, 0), 81);
        Check.sizes("7 the first goes", y, 81);
    }

    // "EDGES 0 .. 9"
    private static void edgesAreNoughtToNine() {
        CrustMarket x = Check.market("kind 50 keeps 30;", "edge guests-5;");
        x.feast(0, 5);
        Check.due("14 no EDGES", x.remain(0, 3), 0);
        x.feast(0, 4);
        Check.due("14 EDGES held to 0", x.remain(1, 3), 0);
        Check.tell(x, 1, "left 9;edge guests-5;");
        x.feast(0, 14);
        Check.due("14 nine", x.remain(2, 3), 9);
        x.feast(0, 15);
        Check.due("14 EDGES held to 9", x.remain(3, 3), 9);
        x.feast(0, 13);
        Check.due("14 eight", x.remain(4, 3), 8);
        x.cut(4, 1);
        Check.due("6 eight and one are nine", x.remain(4, 3) + x.remain(5, 3), 18);
        x.cut(3, 1);
        Check.due("6 nine stay nine", x.remain(3, 3) + x.remain(6, 3), 18);
        x.cut(0, 1);
        Check.due("6 one of none", x.remain(0, 3) + x.remain(7, 3), 2);
    }

    // "COIN (an int, 100 at first), FINES (0), INSPECT, DOGS 0 .. 1000 (0 each at first), DAY .. (0 at first), EATEN (0)"
    private static void numbersAtFirst() {
        CrustMarket x = new CrustMarket();
        Check.due("1 DAY", x.look(1), 0);
        Check.due("1 COIN", x.look(3), 100);
        Check.due("1 FINES", x.look(4), 0);
        Check.due("1 EATEN", x.look(5), 0);
        Check.due("1 INSPECT", x.look(6), 0);
        Check.due("1 DOGS", x.look(7), 0);
        Check.due("1 STATE", x.look(9), 0);
    }

    // "DAY 0 .. 9999"
    private static void theLastDay() {
        CrustMarket x = new CrustMarket();
        for (int i = 0; i < 166; i++) {
            x.days(60);
        }
        Check.due("9 DAY 9960", x.look(1), 9960);
        Check.due("9 to 10000", x.days(40), -1);
        Check.due("9 to 10020", x.days(60), -1);
        Check.due("9 nothing is done", x.look(1), 9960);
        Check.due("9 to 9999", x.days(39), 0);
        Check.due("9 DAY 9999", x.look(1), 9999);
        Check.due("9 none behind it", x.days(1), -1);
        Check.due("9 DAY stays", x.look(1), 9999);
        Check.due("36 undone", x.undo(), true);
        Check.due("9 one again", x.days(1), 0);
    }
}
