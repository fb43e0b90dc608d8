/** Bounds of PIECES, TESTS, LIMITS, TRADES and what is thought of them (22, 23, 25 to 27, 31 to 35). Above each test its sentence. */
public final class ListBoundsTest {
    public static void main(String[] args) {
        piecesThatCanBe();
        sixPieces();
        boltsThatCanBe();
        cutsByWhat();
        theMostWorth();
        theFirstWay();
        testsThatCanBe();
        sixTests();
        forgedByP();
        forgedBySets();
        forgedTestByTest();
        lookAtByP();
        lookAtOfSeveral();
        limitsThatCanBe();
        sixLimits();
        duskThatCanBe();
        duskWhileItIsOne();
        duskOfSeveral();
        tradesThatCanBe();
        eightTrades();
        ringsThatCanBe();
        theFewestTrades();
        backMoreThanItGave();
        backEachOnce();
        backOfEight();
        Check.finish("ListBoundsTest");
    }

    // "a length 1 .. 30 and a worth 1 .. 99"
    private static void piecesThatCanBe() {
        int[][] asked = {{1, 1, 1}, {30, 99, 1}, {1, 99, 1}, {30, 1, 1}, {0, 1, -1}, {31, 1, -1}, {1, 0, -1}, {1, 100, -1}, {-2, 1, -1}, {1, -1, -1}, {0, 0, -1}};
        for (int[] a : asked) {
            CrustMarket x = new CrustMarket();
            Check.due("22 piece " + a[0] + " " + a[1], x.piece(a[0], a[1]), a[2]);
            Check.due("38 PIECES", x.look(15), a[2] == 1 ? 1 : 0);
        }
    }

    // "PIECES, up to 6 told", "A PIECE (length NONE: none is then): how many; NONE if one can't be, or there are six."
    private static void sixPieces() {
        CrustMarket x = new CrustMarket();
        Check.due("22 none of none", x.piece(-1, 1), 0);
        for (int i = 1; i <= 6; i++) {
            Check.due("22 the next", x.piece(i, 10 + i), i);
        }
        Check.due("22 there are six", x.piece(1, 99), -1);
        Check.due("38 six", x.look(15), 6);
        Check.due("23 the sixth", x.cuts(6, 15), 0);
        Check.due("23 the seventh is not", x.cuts(6, 0), 66);
        Check.due("22 none, whatever the worth", x.piece(-1, 0), 0);
        Check.due("38 none", x.look(15), 0);
        Check.due("23 worth of none", x.cuts(99, 0), 0);
        Check.due("22 the first again", x.piece(2, 5), 1);
        Check.due("23 it alone", x.cuts(99, 0), 245);
    }

    // "CUTS of a bolt of b (0 .. 99)"
    private static void boltsThatCanBe() {
        CrustMarket x = new CrustMarket();
        x.piece(1, 3);
        for (int what = 0; what <= 10; what += 10) {
            Check.due("23 bolt -1", x.cuts(-1, what), -1);
            Check.due("23 bolt 0", x.cuts(0, what), 0);
            Check.due("23 bolt 1", x.cuts(1, what), what == 0 ? 3 : 1);
            Check.due("23 bolt 99", x.cuts(99, what), what == 0 ? 297 : 99);
            Check.due("23 bolt 100", x.cuts(100, what), -1);
        }
        x.piece(-1, 0);
        x.piece(30, 7);
        Check.due("23 too short", x.cuts(29, 0), 0);
        Check.due("23 too short for one", x.cuts(29, 10), 0);
        Check.due("23 just long enough", x.cuts(30, 0), 7);
        Check.due("23 one", x.cuts(30, 10), 1);
        Check.due("23 one yet", x.cuts(59, 10), 1);
        Check.due("23 three of 90", x.cuts(90, 10), 3);
    }

    // "CUTS what 0 worth, 10 + i how many of piece i. NONE if one can't be, or another what."
    private static void cutsByWhat() {
        CrustMarket x = new CrustMarket();
        for (int pieces = 0; pieces <= 6; pieces++) {
            for (int what = -1; what <= 17; what++) {
                boolean there = what == 0 || what >= 10 && what < 10 + pieces;
                Check.due("23 of " + pieces + " what " + what, x.cuts(0, what), there ? 0 : -1);
            }
            x.piece(3, 3);
        }
    }

    private static CrustMarket pieces(int... lengthsAndWorths) {
        CrustMarket x = new CrustMarket();
        for (int i = 0; i < lengthsAndWorths.length; i += 2) {
            x.piece(lengthsAndWorths[i], lengthsAndWorths[i + 1]);
        }
        return x;
    }

    private static void cut(CrustMarket x, int bolt, int worth, int... numbers) {
        Check.due("23 worth of " + bolt, x.cuts(bolt, 0), worth);
        for (int i = 0; i < numbers.length; i++) {
            Check.due("23 of piece " + i + " in " + bolt, x.cuts(bolt, 10 + i), numbers[i]);
        }
    }

    // "the most worth by pieces, each as often as one likes"
    private static void theMostWorth() {
        CrustMarket x = pieces(5, 9, 3, 5);
        cut(x, 2, 0, 0, 0);
        cut(x, 3, 5, 0, 1);
        cut(x, 5, 9, 1, 0);
        cut(x, 6, 10, 0, 2);
        cut(x, 8, 14, 1, 1);
        cut(x, 9, 15, 0, 3);
        cut(x, 10, 18, 2, 0);
        // What is left over is worth nothing, and may be left.
        cut(x, 7, 10, 0, 2);
        cut(x, 99, 177, 18, 3);
    }

    // "of several ways the first (piece by piece, the most of it)"
    private static void theFirstWay() {
        cut(pieces(2, 4, 4, 8), 8, 16, 4, 0);
        cut(pieces(4, 8, 2, 4), 8, 16, 2, 0);
        cut(pieces(4, 8, 2, 4), 6, 12, 1, 1);
        cut(pieces(3, 6, 2, 4, 1, 2), 5, 10, 1, 1, 0);
        cut(pieces(3, 6, 2, 4, 1, 2), 4, 8, 1, 0, 1);
        cut(pieces(5, 5, 3, 3, 2, 2), 6, 6, 0, 2, 0);
        cut(pieces(5, 5, 2, 2, 3, 3), 6, 6, 0, 3, 0);
        cut(pieces(7, 7, 7, 7), 21, 21, 3, 0);
        cut(pieces(9, 1, 8, 1, 7, 1, 6, 1, 5, 1, 4, 1), 8, 2, 0, 0, 0, 0, 0, 2);
        cut(pieces(9, 1, 8, 1, 7, 1, 6, 1, 5, 1, 4, 1), 9, 2, 0, 0, 0, 0, 1, 1);
    }

    // "a true one shows it t times of a thousand, a forged one f times (1 .. 999 each)"
    private static void testsThatCanBe() {
        int[][] asked = {{1, 1, 1}, {999, 999, 1}, {1, 999, 1}, {999, 1, 1}, {0, 1, -1}, {1000, 1, -1}, {1, 0, -1}, {1, 1000, -1}, {-2, 1, -1}, {1, -1, -1}, {0, 0, -1}};
        for (int[] a : asked) {
            CrustMarket x = new CrustMarket();
            Check.due("25 test " + a[0] + " " + a[1], x.test(a[0], a[1]), a[2]);
            Check.due("38 TESTS", x.look(16), a[2] == 1 ? 1 : 0);
        }
    }

    // "TESTS, up to 6 told", "A TEST (t NONE: none is then): how many; NONE if one can't be, or there are six."
    private static void sixTests() {
        CrustMarket x = new CrustMarket();
        Check.due("25 none of none", x.test(-1, 1), 0);
        for (int i = 1; i <= 6; i++) {
            Check.due("25 the next", x.test(500, 100 * i), i);
        }
        Check.due("25 there are six", x.test(1, 1), -1);
        Check.due("38 six", x.look(16), 6);
        Check.due("26 the sixth", x.forged(500, 32, 0), 545454);
        Check.due("26 no seventh", x.forged(500, 64, 0), -1);
        Check.due("25 none, whatever f", x.test(-1, 0), 0);
        Check.due("38 none", x.look(16), 0);
        Check.due("26 none", x.forged(500, 1, 0), -1);
        Check.due("25 the first again", x.test(1, 1), 1);
    }

    // "FORGED of p (0 .. 1000) of a thousand", "of a million: p times 1000"
    private static void forgedByP() {
        CrustMarket x = new CrustMarket();
        Check.due("26 p -1", x.forged(-1, 0, 0), -1);
        Check.due("26 p 0", x.forged(0, 0, 0), 0);
        Check.due("26 p 1", x.forged(1, 0, 0), 1000);
        Check.due("26 p 999", x.forged(999, 0, 0), 999000);
        Check.due("26 p 1000", x.forged(1000, 0, 0), 1000000);
        Check.due("26 p 1001", x.forged(1001, 0, 0), -1);
        x.test(999, 1);
        x.test(1, 999);
        for (int i = 0; i < 2; i++) {
            Check.due("26 never forged, shows", x.forged(0, 1 << i, 0), 0);
            Check.due("26 never forged, does not", x.forged(0, 0, 1 << i), 0);
            Check.due("26 surely forged, shows", x.forged(1000, 1 << i, 0), 1000000);
            Check.due("26 surely forged, does not", x.forged(1000, 0, 1 << i), 1000000);
        }
    }

    // "NONE if one can't be (sets of tests, none in both)."
    private static void forgedBySets() {
        CrustMarket x = new CrustMarket();
        for (int tests = 0; tests <= 6; tests++) {
            int all = (1 << tests) - 1;
            Check.due("26 all of " + tests + " show", x.forged(500, all, 0), 500000);
            Check.due("26 all of " + tests + " do not", x.forged(500, 0, all), 500000);
            Check.due("26 one beyond shows", x.forged(500, all + 1, 0), -1);
            Check.due("26 one beyond does not", x.forged(500, 0, all + 1), -1);
            Check.due("26 shown below 0", x.forged(500, -1, 0), -1);
            Check.due("26 not below 0", x.forged(500, 0, -1), -1);
            for (int i = 0; i < tests; i++) {
                Check.due("26 in both: " + i, x.forged(500, 1 << i, 1 << i), -1);
                Check.due("26 in both: " + i, x.forged(500, all, 1 << i), -1);
                Check.due("26 in one of both: " + i, x.forged(500, all ^ 1 << i, 1 << i), 500000);
            }
            x.test(500, 500);
        }
    }

    // "test by test of one of both: q becomes a million times q f by (q f + (a million less q) t), t, f being 1000 less these, if it does not show; downwards"
    private static void forgedTestByTest() {
        CrustMarket x = new CrustMarket();
        x.test(700, 100);
        x.test(700, 300);
        Check.due("26 neither", x.forged(990, 0, 0), 990000);
        Check.due("26 the first shows", x.forged(990, 1, 0), 933962);
        Check.due("26 both show", x.forged(990, 3, 0), 858380);
        // 1000000 * 500000 * 900 / (500000 * 900 + 500000 * 300).
        Check.due("26 the first does not", x.forged(500, 0, 1), 750000);
        // Of 750000: 225000000 by 225000000 + 175000000.
        Check.due("26 the second shows", x.forged(500, 2, 1), 562500);
        CrustMarket y = new CrustMarket();
        for (int i = 0; i < 6; i++) {
            y.test(1, 999);
        }
        // 1 of a thousand: 1000 * 999 of 999000 + 999000.
        Check.due("26 one of six shows", y.forged(1, 32, 0), 500000);
        Check.due("26 it does not", y.forged(1, 0, 32), 1);
        // 1000000 * 1 / (1 + 999999 * 999), downwards, is nothing.
        Check.due("26 two do not", y.forged(1, 0, 3), 0);
        Check.due("26 two show", y.forged(1, 3, 0), 999000);
    }

    // "NONE without tests, or if p can't be."
    private static void lookAtByP() {
        CrustMarket x = new CrustMarket();
        for (int p : new int[] {-1, 0, 1000, 1001}) {
            Check.due("27 without tests, p " + p, x.lookAt(p), -1);
        }
        x.test(500, 500);
        x.test(100, 900);
        Check.due("27 p -1", x.lookAt(-1), -1);
        Check.due("27 p 0: each leaves a million", x.lookAt(0), 0);
        Check.due("27 p 1", x.lookAt(1), 1);
        Check.due("27 p 999", x.lookAt(999), 1);
        Check.due("27 p 1000: each leaves a million", x.lookAt(1000), 0);
        Check.due("27 p 1001", x.lookAt(1001), -1);
    }

    // "the greater one of FORGED, if it shows, and a million less FORGED, if it does not, is greatest; of several the least"
    private static void lookAtOfSeveral() {
        CrustMarket x = new CrustMarket();
        for (int i = 0; i < 6; i++) {
            x.test(400, 600);
        }
        Check.due("27 all alike", x.lookAt(500), 0);
        CrustMarket y = new CrustMarket();
        y.test(500, 500);
        y.test(500, 500);
        y.test(500, 500);
        y.test(500, 500);
        y.test(500, 500);
        y.test(499, 501);
        Check.due("27 the sixth", y.lookAt(500), 5);
        CrustMarket z = new CrustMarket();
        z.test(100, 300);
        z.test(700, 950);
        // Shows: 750000 and 575757; a million less, if it does not: 562500 and 857143.
        Check.due("27 by what does not show", z.lookAt(500), 1);
        CrustMarket v = new CrustMarket();
        v.test(1, 999);
        v.test(300, 700);
        v.test(1, 998);
        // Each test is asked alone: the first is the surest.
        Check.due("27 each alone", v.lookAt(500), 0);
        CrustMarket w = new CrustMarket();
        w.test(900, 100);
        w.test(600, 700);
        w.test(700, 600);
        // A test that shows the true ones: FORGED 100000 if it shows, a million less 900000 if not; 538461, 571429; 461538, 428572.
        Check.due("27 the second", w.lookAt(500), 1);
    }

    // "A LIMIT (NONE: none is then; 1 .. 999)"
    private static void limitsThatCanBe() {
        int[][] asked = {{0, -1}, {1, 1}, {999, 1}, {1000, -1}, {-2, -1}};
        for (int[] a : asked) {
            CrustMarket x = new CrustMarket();
            Check.due("31 limit " + a[0], x.limit(a[0]), a[1]);
            Check.due("38 LIMITS", x.look(17), a[1] == 1 ? 1 : 0);
        }
    }

    // "of up to 6 told LIMITS", "how many; NONE if one can't be, or there are six."
    private static void sixLimits() {
        CrustMarket x = new CrustMarket();
        Check.due("31 none of none", x.limit(-1), 0);
        for (int i = 1; i <= 6; i++) {
            Check.due("31 the next", x.limit(10 * i), i);
        }
        Check.due("31 there are six", x.limit(999), -1);
        Check.due("38 six", x.look(17), 6);
        Check.due("32 the sixth", x.dusk(999, 1, 0), 5);
        Check.due("32 at its price", x.dusk(999, 1, 1), 60);
        Check.due("31 none", x.limit(-1), 0);
        Check.due("38 none", x.look(17), 0);
        Check.due("32 nobody", x.dusk(999, 1, 0), -1);
        Check.due("31 the first again", x.limit(5), 1);
    }

    private static void sold(CrustMarket x, int a, int d, int who, int price) {
        Check.due("32 who from " + a + " by " + d, x.dusk(a, d, 0), who);
        Check.due("32 the price from " + a + " by " + d, x.dusk(a, d, 1), price);
    }

    // "each minute d (1 .. 99) less", "NONE if nobody, one can't be (a 1 .. 999), or another what."
    private static void duskThatCanBe() {
        CrustMarket x = new CrustMarket();
        sold(x, 1, 1, -1, -1);
        x.limit(999);
        sold(x, 0, 1, -1, -1);
        sold(x, 1, 1, 0, 1);
        sold(x, 999, 1, 0, 999);
        sold(x, 1000, 1, -1, -1);
        sold(x, 9, 0, -1, -1);
        sold(x, 9, 99, 0, 9);
        sold(x, 9, 100, -1, -1);
        Check.due("32 what 2", x.dusk(9, 1, 2), -1);
        Check.due("32 what -1", x.dusk(9, 1, -1), -1);
        x.limit(-1);
        x.limit(1);
        sold(x, 999, 1, 0, 1);
        sold(x, 999, 2, 0, 1);
    }

    // "as long as it is 1 at least"
    private static void duskWhileItIsOne() {
        CrustMarket x = new CrustMarket();
        x.limit(1);
        sold(x, 100, 99, 0, 1);
        sold(x, 99, 99, -1, -1);
        sold(x, 101, 99, -1, -1);
        sold(x, 11, 5, 0, 1);
        sold(x, 10, 5, -1, -1);
        sold(x, 2, 1, 0, 1);
    }

    // "the first one (of several at one minute the least number) that is the price at least"
    private static void duskOfSeveral() {
        CrustMarket x = new CrustMarket();
        x.limit(40);
        x.limit(50);
        x.limit(45);
        x.limit(50);
        sold(x, 51, 1, 1, 50);
        sold(x, 50, 1, 1, 50);
        sold(x, 49, 1, 1, 49);
        sold(x, 45, 1, 1, 45);
        sold(x, 60, 15, 1, 45);
        sold(x, 60, 20, 0, 40);
        sold(x, 60, 19, 1, 41);
        sold(x, 41, 1, 1, 41);
        sold(x, 40, 1, 0, 40);
    }

    // "n of KIND a are given for m of KIND b (1 .. 9)", "NONE if one can't be (KINDS 0 .. 5, unlike)"
    private static void tradesThatCanBe() {
        int[][] asked = {{0, 5, 1, 1, 1}, {5, 0, 9, 9, 1}, {0, 1, 1, 9, 1}, {0, 1, 9, 1, 1}, {6, 0, 1, 1, -1}, {0, 6, 1, 1, -1}, {-2, 0, 1, 1, -1}, {0, -1, 1, 1, -1},
            {0, 0, 1, 1, -1}, {5, 5, 1, 1, -1}, {0, 1, 0, 1, -1}, {0, 1, 10, 1, -1}, {0, 1, 1, 0, -1}, {0, 1, 1, 10, -1}, {0, 1, -1, 1, -1}, {0, 1, 1, -1, -1}};
        for (int[] a : asked) {
            CrustMarket x = new CrustMarket();
            Check.due("33 trade " + a[0] + " " + a[1] + " " + a[2] + " " + a[3], x.trade(a[0], a[1], a[2], a[3]), a[4]);
            Check.due("38 TRADES", x.look(18), a[4] == 1 ? 1 : 0);
        }
    }

    // "TRADES, up to 8 told", "A TRADE (a NONE: none is then): how many; NONE .. or there are eight."
    private static void eightTrades() {
        CrustMarket x = new CrustMarket();
        Check.due("33 none of none", x.trade(-1, 0, 0, 0), 0);
        for (int i = 1; i <= 8; i++) {
            Check.due("33 the next", x.trade(i == 8 ? 4 : 0, i == 8 ? 5 : 1, 1, 1), i);
        }
        Check.due("33 there are eight", x.trade(2, 3, 1, 1), -1);
        Check.due("38 eight", x.look(18), 8);
        Check.due("34 the eighth leads", x.ring(4, 5), 1);
        Check.due("34 the ninth is not", x.ring(2, 3), -1);
        Check.due("33 none, whatever else", x.trade(-1, 9, 9, 99), 0);
        Check.due("38 none", x.look(18), 0);
        Check.due("34 none leads", x.ring(4, 5), -1);
        Check.due("33 the first again", x.trade(2, 3, 1, 1), 1);
    }

    // "NONE if none lead there, or one can't be. (a to a: 0.)"
    private static void ringsThatCanBe() {
        CrustMarket x = new CrustMarket();
        for (int kind = -1; kind <= 6; kind++) {
            Check.due("34 " + kind + " to itself", x.ring(kind, kind), kind >= 0 && kind <= 5 ? 0 : -1);
            Check.due("34 none lead from " + kind, x.ring(kind, kind == 0 ? 1 : 0), -1);
            Check.due("34 none lead to " + kind, x.ring(kind == 0 ? 1 : 0, kind), -1);
        }
        x.trade(0, 5, 1, 1);
        Check.due("34 one way", x.ring(0, 5), 1);
        Check.due("34 not the other", x.ring(5, 0), -1);
        Check.due("34 KINDS that are not told", x.look(0), 0);
    }

    // "the fewest TRADES, one behind the other, that lead from a KIND to another one"
    private static void theFewestTrades() {
        CrustMarket x = new CrustMarket();
        for (int i = 0; i < 5; i++) {
            x.trade(i, i + 1, 9, 1);
        }
        for (int from = 0; from < 6; from++) {
            for (int to = 0; to < 6; to++) {
                Check.due("34 " + from + " to " + to, x.ring(from, to), from <= to ? to - from : -1);
            }
        }
        x.trade(5, 0, 1, 1);
        Check.due("34 round about", x.ring(1, 0), 5);
        x.trade(3, 0, 1, 1);
        Check.due("34 shorter", x.ring(1, 0), 3);
        x.trade(1, 0, 1, 1);
        Check.due("34 at once", x.ring(1, 0), 1);
    }

    // "so that it gets more than it gave (all m, multiplied, are more than all n)", "NONE if none."
    private static void backMoreThanItGave() {
        for (int kind = -1; kind <= 6; kind++) {
            Check.due("35 without TRADES " + kind, new CrustMarket().back(kind), -1);
        }
        int[][] asked = {{2, 3, 3, 2, -1}, {2, 3, 4, 3, 2}, {9, 8, 8, 9, -1}, {9, 8, 7, 8, 2}, {1, 1, 1, 1, -1}, {9, 9, 9, 8, -1}, {9, 9, 8, 9, 2}, {1, 9, 9, 1, -1}, {1, 9, 8, 1, 2}};
        for (int[] a : asked) {
            CrustMarket x = new CrustMarket();
            x.trade(0, 5, a[0], a[1]);
            x.trade(5, 0, a[2], a[3]);
            String name = "35 " + a[1] + " times " + a[3] + " for " + a[0] + " times " + a[2];
            Check.due(name, x.back(0), a[4]);
            Check.due(name + " from the other", x.back(5), a[4]);
            Check.due("35 not by another", x.back(1), -1);
            Check.due("35 no KIND -1", x.back(-1), -1);
            Check.due("35 no KIND 6", x.back(6), -1);
        }
    }

    // "the fewest, each once at most, that lead from a KIND to itself"
    private static void backEachOnce() {
        CrustMarket x = new CrustMarket();
        x.trade(0, 1, 3, 1);
        x.trade(1, 0, 1, 1);
        x.trade(1, 2, 1, 2);
        x.trade(2, 1, 1, 1);
        Check.due("35 twice round it were four", x.back(0), -1);
        Check.due("35 for itself it gains", x.back(1), 2);
        x.trade(1, 2, 1, 2);
        x.trade(2, 1, 1, 1);
        Check.due("35 two alike may both be used", x.back(0), 6);
        x.trade(0, 3, 1, 1);
        Check.due("35 leads nowhere", x.back(0), 6);
        x.trade(3, 0, 1, 2);
        Check.due("35 fewer", x.back(0), 2);
    }

    private static void backOfEight() {
        CrustMarket x = new CrustMarket();
        x.trade(0, 1, 9, 1);
        x.trade(1, 0, 1, 1);
        x.trade(1, 2, 1, 2);
        x.trade(2, 1, 1, 1);
        x.trade(1, 3, 1, 2);
        x.trade(3, 1, 1, 1);
        x.trade(1, 4, 1, 2);
        Check.due("35 seven: none", x.back(0), -1);
        x.trade(4, 1, 1, 1);
        Check.due("35 all eight: eight for nine", x.back(0), -1);
        x.trade(-1, 0, 0, 0);
        x.trade(0, 1, 9, 1);
        x.trade(1, 0, 1, 1);
        x.trade(1, 2, 1, 2);
        x.trade(2, 1, 1, 1);
        x.trade(1, 3, 1, 2);
        x.trade(3, 1, 1, 1);
        x.trade(1, 4, 1, 3);
        x.trade(4, 1, 1, 1);
        Check.due("35 all eight: twelve for nine", x.back(0), 8);
        CrustMarket y = new CrustMarket();
        for (int i = 0; i < 8; i++) {
            y.trade(i % 2 * 5, 5 - i % 2 * 5, 9, 9);
        }
        Check.due("35 nines alone", y.back(0), -1);
    }
}
