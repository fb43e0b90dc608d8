/** Bounds of UNDO (36), THE IMAGE (37) and look (38). Above each test stands the sentence it asks. */
public final class UndoBoundsTest {
    public static void main(String[] args) {
        sixAreKept();
        sixOfEachSort();
        aDayIsOne();
        refusedAreNone();
        notUndoneYet();
        stateAndTheBookToo();
        whatForgets();
        whatDoesNotForget();
        whatIsRefusedDoesNotForget();
        noImage();
        theImageIsAll();
        theImageIsNotTheTape();
        moreThanOnce();
        theLatestImage();
        theImageOfAnEmptyMarket();
        lookByWhat();
        Check.finish("UndoBoundsTest");
    }

    private static CrustMarket market() {
        return Check.market("kind 50 keeps 30;kind 60 keeps 30;");
    }

    // "6 are kept", "UNDO: true; false if there is nothing."
    private static void sixAreKept() {
        CrustMarket x = market();
        Check.due("36 nothing", x.undo(), false);
        for (int i = 1; i <= 9; i++) {
            x.feast(0, i);
            Check.due("38 what can be undone behind " + i, x.look(14), Math.min(6, i));
        }
        for (int i = 8; i >= 3; i--) {
            Check.due("36 to " + i, x.undo(), true);
            Check.due("36 REMAINS", x.look(2), i);
            Check.due("38 what can be undone", x.look(14), i - 3);
        }
        Check.due("36 no seventh", x.undo(), false);
        Check.sizes("36 three stay", x, 45, 40, 35);
    }

    private static int step(CrustMarket x, int sort, int place) {
        switch (sort) {
            case 0: return x.feast(0, 1);
            case 1: return x.forge(0, 9);
            case 2: return x.cut(place, 1);
            case 3: return x.join(0, 1);
            case 4: return x.sell(0);
            default: return x.days(1);
        }
    }

    // "the latest DAY, FEAST, FORGING, CUT, JOINING, SALE not undone yet goes back"
    private static void sixOfEachSort() {
        for (int sort = 0; sort < 6; sort++) {
            CrustMarket x = Check.market("kind 50 keeps 30;", "spoil 100;", "on 6 feast 0 for 3;", "want 0 30 by 9 pays 7;");
            CrustMarket twin = Check.market("kind 50 keeps 30;", "spoil 100;", "on 6 feast 0 for 3;", "want 0 30 by 9 pays 7;");
            x.set(0, 9999);
            twin.set(0, 9999);
            for (int i = 0; i < 7; i++) {
                x.feast(0, 2 + i % 3);
                twin.feast(0, 2 + i % 3);
            }
            for (int i = 0; i < 6; i++) {
                Check.due("36 sort " + sort + " can be", step(x, sort, i) >= 0, true);
            }
            for (int i = 0; i < 6; i++) {
                Check.due("36 sort " + sort, x.undo(), true);
            }
            Check.due("36 no seventh", x.undo(), false);
            x.state(0);
            twin.state(0);
            Check.due("36 sort " + sort + " went back", Seen.all(x).equals(Seen.all(twin)), true);
        }
    }

    // Each DAY of days(n) is one.
    private static void aDayIsOne() {
        CrustMarket x = market();
        x.days(5);
        Check.due("38 five", x.look(14), 5);
        x.days(60);
        Check.due("38 six", x.look(14), 6);
        for (int day = 64; day >= 59; day--) {
            Check.due("36 a DAY", x.undo(), true);
            Check.due("36 DAY", x.look(1), day);
        }
        Check.due("36 no seventh", x.undo(), false);
    }

    private static void refusedAreNone() {
        CrustMarket x = market();
        x.feast(0, 1);
        x.feast(2, 1);
        x.forge(0, 50);
        x.cut(0, 45);
        x.join(0, 0);
        x.sell(1);
        x.days(61);
        Check.due("38 one", x.look(14), 1);
        Check.due("36 the feast", x.undo(), true);
        Check.due("36 no REMAINS", x.look(2), 0);
        Check.due("36 no more", x.undo(), false);
    }

    // "not undone yet"
    private static void notUndoneYet() {
        CrustMarket x = market();
        x.feast(0, 1);
        x.feast(0, 2);
        x.undo();
        x.feast(0, 3);
        Check.due("38 two", x.look(14), 2);
        Check.sizes("36", x, 45, 35);
        x.undo();
        Check.sizes("36 the third goes back", x, 45);
        x.undo();
        Check.sizes("36 the first goes back", x);
        Check.due("36 the second does not again", x.undo(), false);
        for (int turn = 0; turn < 20; turn++) {
            x.feast(0, 1);
            x.feast(0, 2);
            x.undo();
        }
        Check.due("38 six less the one undone", x.look(14), 5);
        Check.due("36 EATEN by twenty", x.look(5), 20);
        for (int i = 0; i < 5; i++) {
            x.undo();
        }
        Check.due("36 EATEN by fifteen", x.look(5), 15);
        Check.due("36 no more", x.undo(), false);
    }

    // "goes back (STATE, THE BOOK, too)"
    private static void stateAndTheBookToo() {
        CrustMarket x = Check.market("kind 50 keeps 30;", "spoil 500;", "on 0 feast 0 for 2;", "want 0 40 by 0 pays 7;");
        x.set(1, 1000);
        x.set(2, 500);
        x.state(12345);
        x.forge(0, 8);
        x.feast(0, 1);
        x.days(1);
        Check.due("17 MET", x.want(0, 4), 1);
        Check.due("36 the DAY", x.undo(), true);
        Check.due("36 STATE", x.look(9), 12345);
        Check.due("36 DAY", x.look(1), 0);
        Check.due("36 COIN", x.look(3), 80);
        Check.due("36 FINES", x.look(4), 0);
        Check.due("36 EATEN", x.look(5), 1);
        Check.due("36 THE BOOK", x.look(8), 2);
        Check.due("36 no line 2", x.book(2, 0), -1);
        Check.due("36 MET", x.want(0, 4), 0);
        Check.sizes("36 REMAINS", x, 8, 45);
        x.days(1);
        int state = x.look(9);
        int lines = x.look(8);
        x.undo();
        x.days(1);
        Check.due("36 the same DRAWS again", x.look(9), state);
        Check.due("36 the same lines again", x.look(8), lines);
        CrustMarket y = Check.forged(9);
        y.set(1, 1000);
        y.days(1);
        Check.due("9 a fine", y.look(4), 1);
        y.undo();
        Check.due("36 FINES go back", y.look(4), 0);
        Check.due("36 COIN goes back", y.look(3), 9979);
    }

    // "whatever else is told .. forgets them"
    private static void whatForgets() {
        Check.Calls[] all = {x -> x.state(0), x -> x.set(0, 5), x -> x.set(1, 5), x -> x.set(2, 5), x -> Check.tell(x, 0, "kind 9 keeps 9;"),
            x -> Check.tell(x, 0, ""), x -> Check.tell(x, 2, "on 1 feast 0 for 1;"), x -> Check.tell(x, 2, ""), x -> Check.tell(x, 3, "want 0 1 by 1 pays 1;"),
            x -> Check.tell(x, 3, ""), x -> x.image(false)};
        for (int i = 0; i < all.length; i++) {
            CrustMarket x = market();
            x.image(true);
            x.feast(0, 1);
            x.feast(0, 1);
            Check.due("38 two", x.look(14), 2);
            all[i].on(x);
            Check.due("36 forgotten by " + i, x.look(14), 0);
            Check.due("36 nothing goes back behind " + i, x.undo(), false);
        }
    }

    // "but THE LAW, RECIPES, PIECES, TESTS, LIMITS, TRADES (the taking of THE IMAGE does not)"
    private static void whatDoesNotForget() {
        Check.Calls[] all = {x -> Check.tell(x, 1, "left 1;"), x -> Check.tell(x, 1, ""), x -> Check.tell(x, 4, "dish 1;"), x -> Check.tell(x, 4, ""),
            x -> x.piece(1, 1), x -> x.piece(-1, 1), x -> x.test(1, 1), x -> x.test(-1, 1), x -> x.limit(1), x -> x.limit(-1),
            x -> x.trade(0, 1, 1, 1), x -> x.trade(-1, 1, 1, 1), x -> x.image(true), x -> x.feed(0, 0, 0, 0, 0), x -> x.end(0),
            x -> x.goes(60, 0), x -> x.joins(0, 1, 0), x -> x.look(14)};
        for (int i = 0; i < all.length; i++) {
            CrustMarket x = market();
            x.feast(0, 1);
            x.feast(0, 2);
            all[i].on(x);
            Check.due("36 not forgotten by " + i, x.look(14), 2);
            Check.due("36 goes back behind " + i, x.undo(), true);
            Check.sizes("36 behind " + i, x, 45);
        }
        CrustMarket y = market();
        y.feast(0, 1);
        Check.tell(y, 1, "left 7;");
        Check.tell(y, 4, "dish 9;");
        y.piece(1, 1);
        y.test(1, 1);
        y.limit(1);
        y.trade(0, 1, 1, 1);
        y.undo();
        Check.due("36 THE LAW stays told", y.left(0, 1, false), 7);
        Check.due("36 RECIPES stay told", y.cooks(0), 9);
        Check.due("36 the lists stay told", y.look(15) + y.look(16) + y.look(17) + y.look(18), 4);
    }

    private static void whatIsRefusedDoesNotForget() {
        Check.Calls[] all = {x -> x.set(0, 10000), x -> x.set(1, 1001), x -> x.set(2, -1), x -> x.set(3, 0), x -> Check.tell(x, 0, "kind"),
            x -> Check.tell(x, 2, "on"), x -> Check.tell(x, 3, "want"), x -> x.text(5), x -> x.text(-1), x -> x.image(false)};
        for (int i = 0; i < all.length; i++) {
            CrustMarket x = market();
            x.feast(0, 1);
            all[i].on(x);
            Check.due("36 not forgotten by a refused " + i, x.look(14), 1);
        }
    }

    // "THE IMAGE is taken (true), or gone back to (false): true; false if there is none."
    private static void noImage() {
        CrustMarket x = market();
        Check.due("37 none", x.image(false), false);
        Check.due("37 taken", x.image(true), true);
        Check.due("37 gone back to", x.image(false), true);
    }

    private static CrustMarket full() {
        CrustMarket x = Check.market("kind 50 keeps 30;kind 60 keeps 20;", "spoil 300 when size>20;price size*2;edge 5;", "on 1 feast 0 for 3;on 4 feast 1 for 2;",
            "want 0 40 by 1 pays 7;want 1 9 by 8 pays 3;", "dish 4 0 9;dish 7 1 8;");
        x.set(1, 1000);
        x.set(2, 300);
        x.state(99);
        x.piece(3, 5);
        x.test(300, 800);
        x.limit(40);
        x.trade(0, 1, 2, 3);
        x.trade(1, 0, 1, 1);
        x.forge(0, 12);
        x.feast(0, 1);
        x.days(2);
        return x;
    }

    // "all that is and was told .. as it was when it was taken"
    private static void theImageIsAll() {
        CrustMarket x = full();
        Check.due("9 a fine", x.look(4), 1);
        x.image(true);
        Check.tell(x, 0, "kind 9 keeps 9;");
        Check.tell(x, 1, "left 1;");
        Check.tell(x, 2, "on 9 feast 0 for 1;");
        Check.tell(x, 3, "want 0 9 by 99 pays 9;");
        Check.tell(x, 4, "dish 9;");
        x.set(0, 1);
        x.set(1, 2);
        x.set(2, 3);
        x.state(4);
        x.piece(-1, 0);
        x.piece(9, 9);
        x.test(-1, 0);
        x.test(9, 9);
        x.limit(-1);
        x.limit(9);
        x.trade(-1, 0, 0, 0);
        x.trade(3, 4, 1, 1);
        x.set(0, 99);
        x.forge(0, 3);
        x.feast(0, 1);
        x.set(1, 1000);
        x.days(3);
        Check.due("9 one more fine", x.look(4), 2);
        x.image(false);
        Check.due("37 FINES go back", x.look(4), 1);
        Check.due("37 nothing can be undone then", x.look(14), 0);
        CrustMarket twin = full();
        twin.state(twin.look(9));
        Check.due("37 all is as it was", Seen.market(x).equals(Seen.market(twin)), true);
    }

    // "but the TAPE, fault() and what can be undone (nothing then)"
    private static void theImageIsNotTheTape() {
        CrustMarket x = market();
        Check.faulty(x, 0, "kind 0", 2, 5);
        Check.feed(x, "left 1;left 2;");
        x.image(true);
        Check.due("37 the taking leaves the TAPE", x.end(14), true);
        Check.due("37 the taking leaves fault()", x.fault(0) * 10 + x.fault(1), 25);
        x.end(7);
        x.image(false);
        Check.due("37 the TAPE stays as it is", x.end(8), false);
        Check.due("37 fault() stays as it is", x.fault(0) * 10 + x.fault(1), 25);
        Check.due("12 and is read", x.text(1), 1);
        x.image(false);
        Check.due("37 THE LAW goes back", x.look(10), 0);
        Check.due("37 fault() is of the latest text()", x.fault(0), 0);
    }

    // "gone back to it may be more than once"
    private static void moreThanOnce() {
        CrustMarket x = full();
        x.image(true);
        x.image(false);
        x.days(2);
        int state = x.look(9);
        x.image(false);
        for (int turn = 0; turn < 3; turn++) {
            x.days(2);
            Check.due("37 the same DRAWS", x.look(9), state);
            Check.due("37 two can be undone", x.look(14), 2);
            Check.due("37 back", x.image(false), true);
            Check.due("37 DAY 2", x.look(1), 2);
            Check.due("37 none can be undone", x.undo(), false);
        }
    }

    private static void theLatestImage() {
        CrustMarket x = market();
        x.image(true);
        x.feast(0, 1);
        x.image(true);
        x.feast(0, 2);
        x.image(false);
        Check.sizes("37 the latest", x, 45);
        x.image(false);
        Check.sizes("37 still the latest", x, 45);
        x.feast(0, 3);
        x.undo();
        x.undo();
        Check.sizes("36 not behind THE IMAGE", x, 45);
        x.sell(0);
        x.image(true);
        x.undo();
        Check.sizes("36 UNDO behind the taking", x, 45);
        x.image(false);
        Check.sizes("37 THE IMAGE is not undone", x);
    }

    private static void theImageOfAnEmptyMarket() {
        CrustMarket x = new CrustMarket();
        x.image(true);
        Check.tell(x, 0, "kind 50 keeps 30;");
        x.feast(0, 1);
        x.days(1);
        x.piece(1, 1);
        x.state(5);
        x.image(false);
        for (int what = 0; what <= 18; what++) {
            Check.due("37 empty again, look " + what, x.look(what), what == 3 ? 100 : 0);
        }
        Check.due("37 no KIND", x.feast(0, 1), -1);
    }

    // "NONE - 999999 for another what. (STATE, COIN as they are.)"
    private static void lookByWhat() {
        CrustMarket x = new CrustMarket();
        Check.due("38 what -1", x.look(-1), -1000000);
        Check.due("38 what 0", x.look(0), 0);
        Check.due("38 what 18", x.look(18), 0);
        Check.due("38 what 19", x.look(19), -1000000);
        x.state(-1000000);
        Check.due("38 STATE as it is", x.look(9), -1000000);
        x.set(0, -1);
        Check.due("38 COIN as it is", x.look(3), -1);
    }
}
