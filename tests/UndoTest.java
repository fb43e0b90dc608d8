/** Promises 36 (undo), 37 (image). */
public final class UndoTest {
    public static void main(String[] args) {
        eachStepGoesBack();
        sixAreKept();
        whatForgets();
        whatDoesNotForget();
        theLawIsNotUndone();
        imageOfAll();
        imageMoreThanOnce();
        Check.finish("UndoTest");
    }

    private static CrustMarket market() {
        CrustMarket x = new CrustMarket();
        Check.tell(x, 0, "kind 30 keeps 9;kind 20 keeps 9;");
        Check.tell(x, 1, "spoil 300;");
        Check.tell(x, 2, "on 0 feast 0 for 1;on 1 feast 1 for 1;");
        Check.tell(x, 3, "want 0 24 by 0 pays 9;want 1 9 by 1 pays 7;");
        return x;
    }

    /** All that can be seen of a market, but what can be undone, as one text. */
    private static String seen(CrustMarket x) {
        StringBuilder s = new StringBuilder();
        for (int what = 0; what <= 18; what++) {
            s.append(what == 14 ? 0 : x.look(what)).append(' ');
        }
        for (int i = 0; i < 14; i++) {
            for (int what = 0; what < 7; what++) {
                s.append(x.remain(i, what)).append(' ');
            }
        }
        for (int i = 0; i < x.look(8); i++) {
            for (int what = 0; what < 4; what++) {
                s.append(x.book(i, what)).append(' ');
            }
        }
        for (int i = 0; i < 12; i++) {
            for (int what = 0; what < 5; what++) {
                s.append(x.want(i, what)).append(' ');
            }
        }
        for (int size = 0; size < 100; size++) {
            s.append(x.crumbs(size, 0)).append(' ').append(x.cuts(size, 0)).append(' ');
        }
        s.append(x.cooks(0)).append(x.lookAt(300)).append(x.forged(300, 1, 0)).append(x.dusk(999, 1, 1)).append(x.back(0));
        return s.toString();
    }

    private static void eachStepGoesBack() {
        CrustMarket x = market();
        x.set(1, 1000);
        x.set(2, 1000);
        Check.due("36 nothing", x.undo(), false);
        String[] before = new String[6];
        for (int i = 0; i < 6; i++) {
            before[i] = seen(x);
            switch (i) {
                case 0: Check.due("36 feast", x.feast(0, 1), 25); break;
                case 1: Check.due("36 forge", x.forge(0, 9), 1); break;
                case 2: Check.due("36 cut", x.cut(0, 9), 2); break;
                case 3: Check.due("36 join", x.join(2, 1), 22); break;
                case 4: Check.due("36 sell", x.sell(0), 9); break;
                default: Check.due("36 day", x.days(1), 1); break;
            }
            Check.due("36 kept", x.look(14), i + 1);
        }
        for (int i = 5; i >= 0; i--) {
            Check.due("36 undo", x.undo(), true);
            Check.due("36 kept then", x.look(14), i);
            Check.due("36 as before step " + i, seen(x).equals(before[i]), true);
        }
        Check.due("36 nothing more", x.undo(), false);
        x.feast(1, 1);
        Check.due("36 one again", x.look(14), 1);
    }

    private static void sixAreKept() {
        CrustMarket x = market();
        x.days(5);
        Check.due("36 each day is one", x.look(14), 5);
        x.days(4);
        Check.due("36 six", x.look(14), 6);
        for (int day = 8; day >= 3; day--) {
            Check.due("36 undo a day", x.undo(), true);
            Check.due("36 the day", x.look(1), day);
        }
        Check.due("36 no seventh", x.undo(), false);
        Check.due("36 the day stays", x.look(1), 3);
        CrustMarket y = market();
        y.days(2);
        Check.due("36 met", y.want(0, 4) + y.want(1, 4), 2);
        y.undo();
        Check.due("36 met before", y.want(0, 4), 1);
        Check.due("36 not met before", y.want(1, 4), 0);
        Check.due("36 met again", y.days(1), 1);
        CrustMarket z = market();
        Check.tell(z, 1, "");
        z.set(1, 1000);
        z.state(7);
        z.forge(0, 9);
        z.days(1);
        String once = seen(z);
        Check.due("36 a fine", z.look(4), 1);
        z.days(1);
        z.undo();
        Check.due("36 state and fines as once", seen(z).equals(once), true);
        Check.due("36 refused is no step", y.feast(9, 9) + y.forge(9, 9) + y.cut(9, 9) + y.join(9, 9) + y.sell(9) + y.days(0), -6);
        Check.due("36 two steps", y.look(14), 2);
    }

    private static void whatForgets() {
        for (int i = 0; i < 8; i++) {
            CrustMarket x = market();
            x.image(true);
            x.feast(0, 1);
            switch (i) {
                case 0: x.state(0); break;
                case 1: x.set(0, 5); break;
                case 2: x.set(1, 5); break;
                case 3: x.set(2, 5); break;
                case 4: Check.tell(x, 0, "kind 9 keeps 9;"); break;
                case 5: Check.tell(x, 2, ""); break;
                case 6: Check.tell(x, 3, ""); break;
                default: x.image(false); break;
            }
            Check.due("36 forgotten by " + i, x.look(14), 0);
            Check.due("36 no undo behind " + i, x.undo(), false);
        }
    }

    private static void whatDoesNotForget() {
        CrustMarket x = market();
        x.feast(0, 1);
        x.set(0, 10000);
        x.set(3, 0);
        Check.tell(x, 0, "kind");
        Check.tell(x, 2, "on");
        Check.tell(x, 3, "want");
        Check.tell(x, 5, "x");
        Check.tell(x, 1, "left 3;");
        Check.tell(x, 4, "dish 3;");
        x.piece(1, 1);
        x.piece(-1, 1);
        x.test(1, 1);
        x.limit(1);
        x.trade(0, 1, 1, 1);
        x.image(true);
        x.goes(5, 0);
        Check.due("36 not forgotten", x.look(14), 1);
        Check.due("36 undone", x.undo(), true);
        Check.due("36 no remains", x.look(2), 0);
    }

    private static void theLawIsNotUndone() {
        CrustMarket x = market();
        x.feast(0, 1);
        Check.tell(x, 1, "left 3;");
        Check.tell(x, 4, "dish 3;");
        x.piece(1, 1);
        x.test(1, 1);
        x.limit(1);
        x.trade(0, 1, 1, 1);
        x.undo();
        Check.due("36 law stays", x.left(0, 1, false), 3);
        Check.due("36 recipes stay", x.look(13), 1);
        Check.due("36 lists stay", x.look(15) + x.look(16) + x.look(17) + x.look(18), 4);
    }

    private static void imageOfAll() {
        CrustMarket x = market();
        Check.tell(x, 4, "dish 3;dish 4 0 9;");
        x.set(1, 700);
        x.set(2, 500);
        x.forge(0, 9);
        x.days(2);
        x.piece(3, 4);
        x.test(300, 400);
        x.limit(70);
        x.trade(0, 1, 1, 2);
        x.trade(1, 0, 1, 1);
        String before = seen(x);
        Check.due("37 taken", x.image(true), true);
        Check.due("37 nothing changed", seen(x).equals(before), true);
        Check.due("37 taking forgets nothing", x.look(14), 3);
        x.days(3);
        x.feast(1, 2);
        x.piece(2, 9);
        x.test(1, 999);
        x.limit(900);
        x.trade(1, 0, 1, 9);
        Check.tell(x, 1, "left 1;");
        Check.tell(x, 4, "");
        Check.tell(x, 0, "kind 5 keeps 5;");
        x.set(0, -7);
        x.set(1, 1);
        x.set(2, 1);
        x.state(99);
        Check.faulty(x, 0, "kind 0", 2, 5);
        x.feed(0, 0, 0, 0, 0);
        Check.due("37 gone back to", x.image(false), true);
        Check.due("37 as it was", seen(x).equals(before), true);
        Check.due("37 nothing can be undone", x.look(14), 0);
        Check.due("37 fault() stays", x.fault(0), 2);
        Check.due("37 the tape stays", x.feed(0, 0, 0, 0, 0), 40);
    }

    private static void imageMoreThanOnce() {
        CrustMarket x = market();
        Check.due("37 none yet", x.image(false), false);
        x.feast(0, 1);
        Check.due("37 none forgets nothing", x.look(14), 1);
        x.image(true);
        String first = seen(x);
        for (int i = 0; i < 3; i++) {
            x.days(4);
            x.feast(0, 2);
            Check.due("37 back", x.image(false), true);
            Check.due("37 the same again", seen(x).equals(first), true);
        }
        x.feast(1, 1);
        String second = seen(x);
        x.image(true);
        x.sell(0);
        x.image(false);
        Check.due("37 the later image", seen(x).equals(second), true);
        x.undo();
        Check.due("37 undo does not go behind it", seen(x).equals(second), true);
    }
}
