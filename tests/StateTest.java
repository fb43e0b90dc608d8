/** Promises 1 (a new object), 2 (state), 3 (set), 38 (look). */
public final class StateTest {
    public static void main(String[] args) {
        aNewObjectIsEmpty();
        stateIsTold();
        numbersAreSet();
        lookTellsEach();
        Check.finish("StateTest");
    }

    private static void aNewObjectIsEmpty() {
        CrustMarket x = new CrustMarket();
        for (int what = 0; what <= 18; what++) {
            Check.due("1 look " + what, x.look(what), what == 3 ? 100 : 0);
        }
        Check.due("1 fault 0", x.fault(0), 0);
        Check.due("1 fault 1", x.fault(1), -1);
        Check.due("1 undo", x.undo(), false);
        Check.due("1 image", x.image(false), false);
        Check.due("1 remain", x.remain(0, 0), -1);
        Check.due("1 kind", x.kind(0, 0), -1);
        Check.due("1 want", x.want(0, 0), -1);
        Check.due("1 book", x.book(0, 0), -1);
        Check.due("1 end", x.end(1), false);
        Check.due("1 NONE", CrustMarket.NONE, -1);
    }

    private static void stateIsTold() {
        CrustMarket x = new CrustMarket();
        Check.due("2 first", x.state(Integer.MIN_VALUE), 0);
        Check.due("2 least", x.state(-1), Integer.MIN_VALUE);
        Check.due("2 look", x.look(9), -1);
        Check.due("2 below 0", x.state(7), -1);
        Check.told(x, 0, "kind 9 keeps 9;", 1);
        Check.told(x, 1, "spoil 1;", 1);
        x.feast(0, 1);
        Check.due("2 can be undone", x.look(14), 1);
        x.state(7);
        Check.due("2 forgets what can be undone", x.look(14), 0);
        x.days(1);
        Check.due("2 a draw", x.look(9), 1664525 * 7 + 1013904223);
        x.state(0);
        x.days(1);
        // 1013904223 >>> 8 is 3960563, modulo 1000 563: not below 1, so one draw.
        Check.due("2 a draw from 0", x.look(9), 1013904223);
    }

    private static void numbersAreSet() {
        CrustMarket x = new CrustMarket();
        Check.due("3 coin", x.set(0, -9999), true);
        Check.due("3 coin is", x.look(3), -9999);
        Check.due("3 coin too low", x.set(0, -10000), false);
        Check.due("3 coin too high", x.set(0, 10000), false);
        Check.due("3 coin stays", x.look(3), -9999);
        Check.due("3 coin high", x.set(0, 9999), true);
        for (int what = 1; what <= 2; what++) {
            Check.due("3 " + what + " most", x.set(what, 1000), true);
            Check.due("3 " + what + " beyond", x.set(what, 1001), false);
            Check.due("3 " + what + " below", x.set(what, -1), false);
            Check.due("3 " + what + " is", x.look(5 + what), 1000);
            Check.due("3 " + what + " none", x.set(what, 0), true);
            Check.due("3 " + what + " is none", x.look(5 + what), 0);
        }
        Check.due("3 another what", x.set(3, 0), false);
        Check.due("3 what below 0", x.set(-1, 0), false);
        Check.told(x, 0, "kind 9 keeps 9;", 1);
        x.feast(0, 1);
        x.set(1, 1001);
        Check.due("3 refused forgets nothing", x.look(14), 1);
        x.set(1, 5);
        Check.due("3 forgets", x.look(14), 0);
    }

    private static void lookTellsEach() {
        CrustMarket x = new CrustMarket();
        Check.told(x, 0, "kind 30 keeps 3;kind 9 keeps 2;", 2);
        Check.told(x, 1, "price 4;price 5;spoil 0;", 3);
        Check.told(x, 2, "on 5 feast 0 for 1;on 6 feast 0 for 1;on 7 feast 0 for 1;on 8 feast 0 for 1;", 4);
        Check.told(x, 3, "want 0 9 by 0 pays 1;want 0 9 by 1 pays 1;want 0 9 by 2 pays 1;want 0 9 by 3 pays 1;want 0 9 by 4 pays 1;", 5);
        Check.told(x, 4, "dish 1;dish 2;dish 3;dish 4;dish 5;dish 6;", 6);
        x.set(1, 8);
        x.set(2, 9);
        x.set(0, 500);
        x.state(77);
        x.piece(1, 1);
        for (int i = 0; i < 2; i++) {
            x.test(1, 1);
        }
        for (int i = 0; i < 3; i++) {
            x.limit(1);
        }
        for (int i = 0; i < 5; i++) {
            x.trade(0, 1, 1, 1);
        }
        x.feast(1, 1);
        x.feast(1, 9);
        x.feast(0, 5);
        x.forge(0, 3);
        int[] due = {2, 0, 3, 480, 0, 3, 8, 9, 4, 77, 3, 4, 5, 6, 4, 1, 2, 3, 5};
        for (int what = 0; what < due.length; what++) {
            Check.due("38 look " + what, x.look(what), due[what]);
        }
        Check.due("38 look 19", x.look(19), -1000000);
        Check.due("38 look -1", x.look(-1), -1000000);
        Check.due("38 look least", x.look(Integer.MIN_VALUE), -1000000);
        x.set(1, 1000);
        x.days(1);
        Check.due("38 fines", x.look(4), 1);
        Check.due("38 day", x.look(1), 1);
        Check.due("38 coin", x.look(3), 430);
    }
}
