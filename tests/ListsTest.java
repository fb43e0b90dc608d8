/** Promises 22 (piece), 23 (cuts), 25 (test), 26 (forged), 27 (lookAt), 31 (limit), 32 (dusk), 33 (trade), 34 (ring), 35 (back). */
public final class ListsTest {
    public static void main(String[] args) {
        pieces();
        cuts();
        tests();
        forged();
        lookAt();
        limits();
        dusk();
        trades();
        rings();
        backs();
        backsOfMany();
        Check.finish("ListsTest");
    }

    private static void pieces() {
        CrustMarket x = new CrustMarket();
        Check.due("22 length 0", x.piece(0, 1), -1);
        Check.due("22 length 31", x.piece(31, 1), -1);
        Check.due("22 worth 0", x.piece(1, 0), -1);
        Check.due("22 worth 100", x.piece(1, 100), -1);
        Check.due("22 length -2", x.piece(-2, 1), -1);
        Check.due("22 none came", x.look(15), 0);
        for (int i = 1; i <= 6; i++) {
            Check.due("22 told", x.piece(30, 99), i);
        }
        Check.due("22 there are six", x.piece(1, 1), -1);
        Check.due("22 none is then", x.piece(-1, 0), 0);
        Check.due("22 from the first", x.piece(1, 1), 1);
    }

    private static void cut(CrustMarket x, int bolt, int worth, int... numbers) {
        Check.due("23 worth of " + bolt, x.cuts(bolt, 0), worth);
        for (int i = 0; i < numbers.length; i++) {
            Check.due("23 of " + bolt + " piece " + i, x.cuts(bolt, 10 + i), numbers[i]);
        }
    }

    private static void cuts() {
        CrustMarket x = new CrustMarket();
        cut(x, 99, 0, -1);
        x.piece(4, 8);
        x.piece(2, 4);
        x.piece(3, 7);
        cut(x, 0, 0, 0, 0, 0);
        cut(x, 1, 0, 0, 0, 0);
        cut(x, 2, 4, 0, 1, 0);
        cut(x, 4, 8, 1, 0, 0);
        cut(x, 5, 11, 0, 1, 1);
        cut(x, 6, 14, 0, 0, 2);
        cut(x, 7, 15, 1, 0, 1);
        cut(x, 99, 231, 0, 0, 33);
        cut(x, 10, 22, 1, 0, 2);
        Check.due("23 bolt -1", x.cuts(-1, 0), -1);
        Check.due("23 bolt 100", x.cuts(100, 0), -1);
        Check.due("23 no such piece", x.cuts(9, 13), -1);
        Check.due("23 what 9", x.cuts(9, 9), -1);
        Check.due("23 what 1", x.cuts(9, 1), -1);
        Check.due("23 what -1", x.cuts(9, -1), -1);
        Check.due("23 what least", x.cuts(9, Integer.MIN_VALUE), -1);
        CrustMarket y = new CrustMarket();
        y.piece(5, 1);
        y.piece(1, 1);
        y.piece(1, 1);
        cut(y, 7, 7, 0, 7, 0);
        CrustMarket z = new CrustMarket();
        z.piece(30, 99);
        z.piece(7, 2);
        cut(z, 99, 299, 3, 1);
        cut(z, 29, 8, 0, 4);
        CrustMarket six = new CrustMarket();
        for (int i = 0; i < 5; i++) {
            six.piece(30 - i, 1);
        }
        six.piece(1, 99);
        cut(six, 99, 9801, 0, 0, 0, 0, 0, 99);
    }

    private static void tests() {
        CrustMarket x = new CrustMarket();
        Check.due("25 t 0", x.test(0, 1), -1);
        Check.due("25 t 1000", x.test(1000, 1), -1);
        Check.due("25 f 0", x.test(1, 0), -1);
        Check.due("25 f 1000", x.test(1, 1000), -1);
        Check.due("25 f -1", x.test(1, -1), -1);
        for (int i = 1; i <= 6; i++) {
            Check.due("25 told", x.test(999, 1), i);
        }
        Check.due("25 there are six", x.test(1, 1), -1);
        Check.due("25 none is then", x.test(-1, 5), 0);
        Check.due("25 none", x.look(16), 0);
    }

    private static void forged() {
        CrustMarket x = new CrustMarket();
        Check.due("26 without tests", x.forged(123, 0, 0), 123000);
        Check.due("26 no such test", x.forged(123, 1, 0), -1);
        x.test(200, 600);
        x.test(999, 1);
        Check.due("26 shows", x.forged(500, 1, 0), 750000);
        // 1000000 * (300000 * 400) / (300000 * 400 + 700000 * 800) = 176470.58
        Check.due("26 does not show", x.forged(300, 0, 1), 176470);
        // 250000 first: 500000; then 500000 * 1 of 500000 + 499500000 = 1000.
        Check.due("26 both show", x.forged(250, 3, 0), 1000);
        Check.due("26 one and not the other", x.forged(250, 1, 2), 999000);
        Check.due("26 never forged", x.forged(0, 3, 0), 0);
        Check.due("26 surely forged", x.forged(1000, 0, 3), 1000000);
        Check.due("26 in both", x.forged(500, 1, 3), -1);
        Check.due("26 p -1", x.forged(-1, 0, 0), -1);
        Check.due("26 p 1001", x.forged(1001, 0, 0), -1);
        Check.due("26 a set with none such", x.forged(500, 4, 0), -1);
        Check.due("26 not a set", x.forged(500, 0, -1), -1);
        Check.due("26 least", x.forged(500, Integer.MIN_VALUE, 0), -1);
    }

    private static void lookAt() {
        CrustMarket x = new CrustMarket();
        Check.due("27 without tests", x.lookAt(500), -1);
        x.test(500, 500);
        x.test(100, 700);
        x.test(300, 900);
        // Shows: 500000, 875000, 750000; a million less, if it does not: 500000, 750000, 875000.
        Check.due("27 of several the least", x.lookAt(500), 1);
        Check.due("27 p -1", x.lookAt(-1), -1);
        Check.due("27 p 1001", x.lookAt(1001), -1);
        Check.due("27 never: all alike", x.lookAt(0), 0);
        // 900000 by the first; 984375 and a million less 750000; 964285 and a million less 562500.
        Check.due("27 likely", x.lookAt(900), 1);
        // A million less 35714 by the second, 15625 by the third.
        Check.due("27 unlikely", x.lookAt(100), 2);
        CrustMarket y = new CrustMarket();
        y.test(100, 800);
        y.test(400, 500);
        y.test(50, 600);
        // Shows: 888888, 555555, 923076; a million less, if it does not: 818182, 545455, 703704.
        Check.due("27 each test alone", y.lookAt(500), 2);
    }

    private static void limits() {
        CrustMarket x = new CrustMarket();
        Check.due("31 v 0", x.limit(0), -1);
        Check.due("31 v 1000", x.limit(1000), -1);
        Check.due("31 v -2", x.limit(-2), -1);
        for (int i = 1; i <= 6; i++) {
            Check.due("31 told", x.limit(i == 1 ? 1 : 999), i);
        }
        Check.due("31 there are six", x.limit(1), -1);
        Check.due("31 none is then", x.limit(-1), 0);
        Check.due("31 again", x.limit(5), 1);
    }

    private static void sold(CrustMarket x, int a, int d, int who, int price) {
        Check.due("32 who " + a + " " + d, x.dusk(a, d, 0), who);
        Check.due("32 price " + a + " " + d, x.dusk(a, d, 1), price);
    }

    private static void dusk() {
        CrustMarket x = new CrustMarket();
        sold(x, 999, 1, -1, -1);
        x.limit(3);
        x.limit(40);
        x.limit(45);
        sold(x, 999, 1, 2, 45);
        sold(x, 998, 1, 2, 45);
        sold(x, 1, 1, 0, 1);
        sold(x, 60, 20, 1, 40);
        sold(x, 60, 19, 2, 41);
        sold(x, 3, 99, 0, 3);
        sold(x, 100, 99, 0, 1);
        sold(x, 99, 99, -1, -1);
        sold(x, 100, 50, -1, -1);
        Check.due("32 a 0", x.dusk(0, 1, 0), -1);
        Check.due("32 a 1000", x.dusk(1000, 1, 0), -1);
        Check.due("32 d 0", x.dusk(1, 0, 0), -1);
        Check.due("32 d 100", x.dusk(1, 100, 0), -1);
        Check.due("32 another what", x.dusk(1, 1, 2), -1);
        Check.due("32 what below 0", x.dusk(1, 1, -1), -1);
    }

    private static void trades() {
        CrustMarket x = new CrustMarket();
        Check.due("33 alike", x.trade(2, 2, 1, 1), -1);
        Check.due("33 kind 6", x.trade(6, 2, 1, 1), -1);
        Check.due("33 to kind 6", x.trade(0, 6, 1, 1), -1);
        Check.due("33 to none", x.trade(0, -1, 1, 1), -1);
        Check.due("33 kind -2", x.trade(-2, 0, 1, 1), -1);
        Check.due("33 n 0", x.trade(0, 1, 0, 1), -1);
        Check.due("33 n 10", x.trade(0, 1, 10, 1), -1);
        Check.due("33 m 0", x.trade(0, 1, 1, 0), -1);
        Check.due("33 m 10", x.trade(0, 1, 1, 10), -1);
        for (int i = 1; i <= 8; i++) {
            Check.due("33 told, of kinds that are not", x.trade(5, 4, 9, 9), i);
        }
        Check.due("33 there are eight", x.trade(0, 1, 1, 1), -1);
        Check.due("33 none is then", x.trade(-1, 9, 9, 9), 0);
        Check.due("33 none", x.look(18), 0);
    }

    private static void rings() {
        CrustMarket x = new CrustMarket();
        for (int i = 0; i < 5; i++) {
            x.trade(i, i + 1, 9, 1);
        }
        Check.due("34 five", x.ring(0, 5), 5);
        Check.due("34 none back", x.ring(5, 0), -1);
        Check.due("34 itself", x.ring(5, 5), 0);
        x.trade(1, 4, 1, 1);
        Check.due("34 shorter", x.ring(0, 5), 3);
        Check.due("34 one", x.ring(0, 1), 1);
        Check.due("34 kind 6", x.ring(0, 6), -1);
        Check.due("34 kind -1", x.ring(-1, 0), -1);
        Check.due("34 itself that can't be", x.ring(6, 6), -1);
        Check.due("34 kind 32", x.ring(0, 32), -1);
        Check.due("34 from kind 32", x.ring(32, 0), -1);
    }

    private static void backs() {
        CrustMarket x = new CrustMarket();
        Check.due("35 none", x.back(0), -1);
        Check.due("35 kind 6", x.back(6), -1);
        Check.due("35 kind -1", x.back(-1), -1);
        x.trade(0, 1, 2, 3);
        x.trade(1, 0, 3, 2);
        Check.due("35 as much is not more", x.back(0), -1);
        x.trade(1, 2, 1, 1);
        x.trade(2, 0, 1, 1);
        Check.due("35 three", x.back(0), 3);
        Check.due("35 from the midst", x.back(2), 3);
        x.trade(1, 0, 1, 1);
        Check.due("35 two", x.back(0), 2);
        // From 2 by 0 and 1 again: 2 -> 0 -> 1 -> 2 gains already.
        Check.due("35 still three", x.back(2), 3);
        Check.due("35 not of it", x.back(3), -1);
    }

    private static void backsOfMany() {
        CrustMarket x = new CrustMarket();
        x.trade(0, 1, 1, 1);
        x.trade(1, 0, 1, 1);
        x.trade(1, 2, 1, 2);
        x.trade(2, 1, 1, 1);
        Check.due("35 a kind twice on the way", x.back(0), 4);
        Check.due("35 the gain itself", x.back(2), 2);
        CrustMarket y = new CrustMarket();
        y.trade(0, 1, 9, 1);
        y.trade(1, 0, 1, 1);
        y.trade(1, 2, 1, 3);
        y.trade(2, 1, 1, 2);
        Check.due("35 once each: six are not more than nine", y.back(0), -1);
        y.trade(2, 3, 1, 2);
        y.trade(3, 2, 1, 1);
        // 1 * 3 * 2 * 1 * 2 * 1 = 12 are more than 9.
        Check.due("35 six", y.back(0), 6);
        CrustMarket z = new CrustMarket();
        for (int i = 0; i < 8; i++) {
            z.trade(i % 2, 1 - i % 2, 9, 9);
        }
        Check.due("35 nines alone", z.back(0), -1);
    }
}
