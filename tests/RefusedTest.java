import java.util.function.ToIntFunction;

/**
 * Calls that can't be: the answer of each, and that it changes nothing; and of those that only ask, that they change
 * nothing either. Two twins are made ready alike, one of them is called, and all that can be seen of both is compared.
 */
public final class RefusedTest {
    private static final int FULL = Integer.MAX_VALUE;
    private static final int LEAST = Integer.MIN_VALUE;
    private static final Check.Calls RICH = RefusedTest::rich;

    public static void main(String[] args) {
        numbersThatCannotBe();
        stepsThatCannotBe();
        stepsWithoutCoin();
        stepsWithoutRoom();
        daysThatCannotBe();
        daysBehindTheLast();
        theTape();
        theFullTape();
        textsWithFaults();
        noSuchText();
        rowsThatAreNot();
        thoughtsThatCannotBe();
        listsThatCannotBe();
        listsThatAreFull();
        noImage();
        nothingToUndo();
        askingChangesNothing();
        thoughtsStayInThought();
        Check.finish("RefusedTest");
    }

    private static void rich(CrustMarket x) {
        Check.tell(x, 0, "kind 30 keeps 9;kind 12 keeps 5;");
        Check.tell(x, 1, "left whole-guests*2;price size+age;spoil 300 when size>20;");
        Check.tell(x, 2, "on 1 feast 0 for 9;on 3 feast 1 for 2;");
        Check.tell(x, 3, "want 0 9 by 4 pays 8;want 1 50 by 2 pays 3;");
        Check.tell(x, 4, "dish 5 0 9;dish 7 1 2;");
        x.set(1, 400);
        x.set(2, 100);
        x.state(77);
        x.piece(3, 4);
        x.piece(7, 11);
        x.test(200, 700);
        x.test(400, 100);
        x.limit(50);
        x.limit(70);
        x.trade(0, 1, 2, 3);
        x.trade(1, 0, 3, 4);
        x.feast(0, 1);
        x.feast(1, 3);
        x.forge(0, 8);
        x.cut(0, 6);
        Check.tell(x, 0, "kind 1 keeps 77;");
        x.feed(0x6c656674, 0x20313b20, 0x20202020, 0x20202020, 0x20202020);
        x.end(9);
    }

    private static void refused(String name, Check.Calls ready, ToIntFunction<CrustMarket> call, int due) {
        CrustMarket called = new CrustMarket();
        CrustMarket twin = new CrustMarket();
        ready.on(called);
        ready.on(twin);
        Check.due(name, call.applyAsInt(called), due);
        Check.due(name + " changes nothing", Seen.all(called).equals(Seen.all(twin)), true);
    }

    private static int asInt(boolean b) {
        return b ? 1 : 0;
    }

    // "false if one can't be, or another what."
    private static void numbersThatCannotBe() {
        int[][] calls = {{0, -10000}, {0, 10000}, {0, LEAST}, {0, FULL}, {1, -1}, {1, 1001}, {1, LEAST}, {1, FULL},
            {2, -1}, {2, 1001}, {2, LEAST}, {2, FULL}, {3, 0}, {-1, 0}, {LEAST, 0}, {FULL, 0}};
        for (int[] c : calls) {
            refused("3 set " + c[0] + " " + c[1], RICH, x -> asInt(x.set(c[0], c[1])), 0);
        }
    }

    // "NONE if it can't be", "NONE if there is none such"
    private static void stepsThatCannotBe() {
        int[][] feasts = {{-1, 1}, {2, 1}, {LEAST, 1}, {FULL, 1}, {0, 0}, {0, 21}, {0, -1}, {0, LEAST}, {0, FULL}};
        for (int[] c : feasts) {
            refused("4 feast " + c[0] + " " + c[1], RICH, x -> x.feast(c[0], c[1]), -1);
            refused("16 left " + c[0] + " " + c[1], RICH, x -> x.left(c[0], c[1], false), -1);
            refused("16 edge " + c[0] + " " + c[1], RICH, x -> x.left(c[0], c[1], true), -1);
        }
        int[][] forgings = {{-1, 1}, {2, 1}, {0, 0}, {0, 30}, {0, 31}, {1, 12}, {0, -1}, {0, LEAST}, {0, FULL}, {LEAST, 1}, {FULL, 1}};
        for (int[] c : forgings) {
            refused("5 forge " + c[0] + " " + c[1], RICH, x -> x.forge(c[0], c[1]), -1);
        }
        // REMAINS: of KIND 0 6, of KIND 1 6, of KIND 0 8 and 22.
        int[][] cuts = {{-1, 1}, {4, 1}, {0, 0}, {0, 6}, {0, 7}, {0, -1}, {3, 22}, {LEAST, 1}, {FULL, 1}, {0, LEAST}, {0, FULL}};
        for (int[] c : cuts) {
            refused("6 cut " + c[0] + " " + c[1], RICH, x -> x.cut(c[0], c[1]), -1);
        }
        int[][] joinings = {{0, 0}, {0, 1}, {1, 0}, {-1, 0}, {0, -1}, {4, 0}, {0, 4}, {-1, -1}, {4, 4}, {LEAST, 0}, {0, FULL}};
        for (int[] c : joinings) {
            refused("7 join " + c[0] + " " + c[1], RICH, x -> x.join(c[0], c[1]), -1);
        }
        for (int place : new int[] {-1, 4, LEAST, FULL}) {
            refused("8 sell " + place, RICH, x -> x.sell(place), -1);
        }
    }

    // "(COIN 20 at least: 20 less)"
    private static void stepsWithoutCoin() {
        for (int coin : new int[] {19, 0, -1, -9999}) {
            Check.Calls poor = x -> {
                rich(x);
                x.set(0, coin);
            };
            refused("5 forge with COIN " + coin, poor, x -> x.forge(0, 1), -1);
        }
    }

    // "(FORGE, CUT: no room: it can't be.)"
    private static void stepsWithoutRoom() {
        Check.Calls full = x -> {
            rich(x);
            x.set(0, 999);
            for (int i = 0; i < 10; i++) {
                x.forge(0, 20);
            }
        };
        refused("5 forge without room", full, x -> x.forge(0, 1), -1);
        refused("6 cut without room", full, x -> x.cut(0, 1), -1);
    }

    // "DAYS go by (1 .. 60) .. NONE, and nothing is done, if one can't be"
    private static void daysThatCannotBe() {
        for (int n : new int[] {0, -1, 61, LEAST, FULL}) {
            refused("9 days " + n, RICH, x -> x.days(n), -1);
        }
    }

    // "or DAY would be above 9999"
    private static void daysBehindTheLast() {
        Check.Calls late = x -> {
            for (int i = 0; i < 166; i++) {
                x.days(60);
            }
            x.days(30);
        };
        refused("9 days from 9990 to 10000", late, x -> x.days(10), -1);
        refused("9 days from 9990 to 10050", late, x -> x.days(60), -1);
        CrustMarket x = new CrustMarket();
        late.on(x);
        Check.due("9 days from 9990 to 9999", x.days(9), 0);
        Check.due("9 DAY 9999", x.look(1), 9999);
    }

    // "false, changing nothing, if it has not so many, or n is below 0"
    private static void theTape() {
        for (int n : new int[] {-1, 10, 400, LEAST, FULL}) {
            refused("11 end " + n + " of 9", RICH, x -> asInt(x.end(n)), 0);
        }
        refused("11 end 9 of 9", RICH, x -> asInt(x.end(9)), 1);
        for (int what : new int[] {-1, 2, LEAST, FULL}) {
            refused("13 fault " + what, RICH, x -> x.fault(what), -1);
        }
    }

    // "NONE, and nothing comes, if there would be more than 400."
    private static void theFullTape() {
        for (int length = 381; length <= 400; length += 19) {
            int n = length;
            Check.Calls fed = x -> {
                for (int i = 0; i < 20; i++) {
                    x.feed(0x20202020, 0x20202020, 0x20202020, 0x20202020, 0x20202020);
                }
                x.end(n);
            };
            refused("10 feed behind " + n, fed, x -> x.feed(0x6c656674, 0x20313b20, 0x20202020, 0x20202020, 0x20202020), -1);
            refused("11 end 401", fed, x -> asInt(x.end(401)), 0);
        }
        CrustMarket x = new CrustMarket();
        Check.feed(x, " ".repeat(380));
        Check.due("10 to four hundred", x.feed(0x6c656674, 0x20313b20, 0x20202020, 0x20202020, 0x20202020), 400);
        Check.due("10 they came", x.text(1), 1);
    }

    // "or a FAULT (it stays as it was)"
    private static void textsWithFaults() {
        String[] texts = {"kind 9 keeps 9;kind 9 keeps 31;", "left 1;price 1;spoil 1;edge 1", "on 1 feast 0 for 3;on 1 feast 2 for 3;",
            "want 1 1 by 1 pays 1;want 1 1 by 1 pays 1;want", "dish 3;dish 2 0 1 0 1;"};
        for (int k = 0; k < texts.length; k++) {
            CrustMarket called = new CrustMarket();
            CrustMarket twin = new CrustMarket();
            rich(called);
            rich(twin);
            called.end(0);
            Check.due("12 text " + k + " with a FAULT", Check.tell(called, k, texts[k]), -1);
            Check.due("12 the TAPE is empty then", called.end(1), false);
            Check.due("12 text " + k + " stays as it was", Seen.market(called).equals(Seen.market(twin)), true);
        }
    }

    // "NONE: no such one (fault() tells 0)"
    private static void noSuchText() {
        for (int k : new int[] {-1, 5, LEAST, FULL}) {
            CrustMarket called = new CrustMarket();
            CrustMarket twin = new CrustMarket();
            rich(called);
            rich(twin);
            Check.due("13 a FAULT ahead", called.fault(0), 2);
            Check.due("12 no text " + k, called.text(k), -1);
            Check.due("12 fault() tells 0", called.fault(0), 0);
            Check.due("13 and no place", called.fault(1), -1);
            Check.due("12 no text " + k + " changes no text", Seen.market(called).equals(Seen.market(twin)), true);
        }
    }

    // "NONE if there is none such, or another what."
    private static void rowsThatAreNot() {
        int[][] remains = {{-1, 0}, {4, 0}, {4, 5}, {4, 6}, {-1, 5}, {-1, 6}, {0, -1}, {0, 7}, {LEAST, 0}, {FULL, 0}, {0, LEAST}, {0, FULL}};
        for (int[] c : remains) {
            refused("14 remain " + c[0] + " " + c[1], RICH, x -> x.remain(c[0], c[1]), -1);
        }
        int[][] kinds = {{-1, 0}, {2, 0}, {2, 2}, {2, 3}, {-1, 2}, {-1, 3}, {0, -1}, {0, 4}, {LEAST, 2}, {FULL, 3}, {0, LEAST}, {0, FULL}};
        for (int[] c : kinds) {
            refused("15 kind " + c[0] + " " + c[1], RICH, x -> x.kind(c[0], c[1]), -1);
        }
        int[][] wants = {{-1, 0}, {2, 0}, {2, 4}, {0, -1}, {0, 5}, {LEAST, 0}, {FULL, 0}, {0, LEAST}, {0, FULL}};
        for (int[] c : wants) {
            refused("17 want " + c[0] + " " + c[1], RICH, x -> x.want(c[0], c[1]), -1);
        }
        int[][] lines = {{-1, 0}, {4, 0}, {4, 3}, {0, -1}, {0, 4}, {LEAST, 0}, {FULL, 0}, {0, LEAST}, {0, FULL}};
        for (int[] c : lines) {
            refused("18 book " + c[0] + " " + c[1], RICH, x -> x.book(c[0], c[1]), -1);
        }
        for (int what : new int[] {-1, 19, LEAST, FULL}) {
            refused("38 look " + what, RICH, x -> x.look(what), -1000000);
        }
    }

    // "NONE if one can't be, or another what" and the like
    private static void thoughtsThatCannotBe() {
        int[][] goes = {{0, 0}, {61, 0}, {-1, 3}, {LEAST, 0}, {FULL, 0}, {1, -1}, {1, 4}, {1, LEAST}, {1, FULL}};
        for (int[] c : goes) {
            refused("19 goes " + c[0] + " " + c[1], RICH, x -> x.goes(c[0], c[1]), -100000);
        }
        int[][] joins = {{-1, 1, 0}, {2, 1, 0}, {0, 0, 0}, {0, 100, 0}, {0, -1, 1}, {0, 1, -1}, {0, 1, 2}, {0, 99, 0}, {FULL, 1, 1}, {0, FULL, 1}, {0, 1, FULL}};
        for (int[] c : joins) {
            refused("20 joins " + c[0] + " " + c[1] + " " + c[2], RICH, x -> x.joins(c[0], c[1], c[2]), -1);
        }
        int[][] most = {{-1, 1, 0}, {2, 1, 1}, {0, 0, 2}, {0, 1000, 2}, {0, -1, 2}, {0, 1, -1}, {0, 1, 3}, {1, 999, 2}, {FULL, 1, 0}, {0, FULL, 2}, {0, 1, LEAST}};
        for (int[] c : most) {
            refused("21 most " + c[0] + " " + c[1] + " " + c[2], RICH, x -> x.most(c[0], c[1], c[2]), -1);
        }
        for (int c : new int[] {-1, 0, 100, 21, LEAST, FULL}) {
            refused("24 stalls " + c, RICH, x -> x.stalls(c), -1);
        }
        int[][] crumbs = {{-1, 0}, {100, 0}, {-1, 1}, {100, 1}, {0, -1}, {0, 2}, {LEAST, 0}, {FULL, 1}, {0, FULL}};
        for (int[] c : crumbs) {
            refused("28 crumbs " + c[0] + " " + c[1], RICH, x -> x.crumbs(c[0], c[1]), -1);
        }
        for (int what : new int[] {-1, 2, LEAST, FULL}) {
            refused("29 cooks " + what, RICH, x -> x.cooks(what), -1);
        }
        int[][] waits = {{-1, 0}, {4, 0}, {-1, 1}, {4, 1}, {0, -1}, {0, 2}, {LEAST, 0}, {FULL, 1}, {0, LEAST}};
        for (int[] c : waits) {
            refused("30 waits " + c[0] + " " + c[1], RICH, x -> x.waits(c[0], c[1]), -1);
        }
    }

    private static void listsThatCannotBe() {
        int[][] pieces = {{0, 1}, {31, 1}, {1, 0}, {1, 100}, {-2, 1}, {1, -1}, {LEAST, 1}, {FULL, 1}, {1, LEAST}, {1, FULL}};
        for (int[] c : pieces) {
            refused("22 piece " + c[0] + " " + c[1], RICH, x -> x.piece(c[0], c[1]), -1);
        }
        int[][] cuts = {{-1, 0}, {100, 0}, {-1, 10}, {100, 10}, {9, -1}, {9, 1}, {9, 9}, {9, 12}, {9, LEAST}, {9, FULL}, {LEAST, 0}, {FULL, 10}};
        for (int[] c : cuts) {
            refused("23 cuts " + c[0] + " " + c[1], RICH, x -> x.cuts(c[0], c[1]), -1);
        }
        int[][] tests = {{0, 1}, {1000, 1}, {1, 0}, {1, 1000}, {-2, 1}, {1, -1}, {LEAST, 1}, {FULL, 1}, {1, LEAST}, {1, FULL}};
        for (int[] c : tests) {
            refused("25 test " + c[0] + " " + c[1], RICH, x -> x.test(c[0], c[1]), -1);
        }
        int[][] forged = {{-1, 0, 0}, {1001, 0, 0}, {500, 4, 0}, {500, 0, 4}, {500, -1, 0}, {500, 0, -1}, {500, 1, 1}, {500, 3, 2},
            {500, LEAST, 0}, {500, 0, LEAST}, {LEAST, 0, 0}, {FULL, 0, 0}, {500, FULL, 0}};
        for (int[] c : forged) {
            refused("26 forged " + c[0] + " " + c[1] + " " + c[2], RICH, x -> x.forged(c[0], c[1], c[2]), -1);
        }
        for (int p : new int[] {-1, 1001, LEAST, FULL}) {
            refused("27 lookAt " + p, RICH, x -> x.lookAt(p), -1);
        }
        for (int v : new int[] {0, 1000, -2, LEAST, FULL}) {
            refused("31 limit " + v, RICH, x -> x.limit(v), -1);
        }
        int[][] dusks = {{0, 1, 0}, {1000, 1, 0}, {0, 1, 1}, {1000, 1, 1}, {9, 0, 0}, {9, 100, 0}, {9, 1, -1}, {9, 1, 2}, {LEAST, 1, 0}, {9, LEAST, 0}, {9, FULL, 1}};
        for (int[] c : dusks) {
            refused("32 dusk " + c[0] + " " + c[1] + " " + c[2], RICH, x -> x.dusk(c[0], c[1], c[2]), -1);
        }
        int[][] trades = {{-2, 0, 1, 1}, {6, 0, 1, 1}, {0, -1, 1, 1}, {0, 6, 1, 1}, {0, 0, 1, 1}, {5, 5, 1, 1}, {0, 1, 0, 1}, {0, 1, 10, 1},
            {0, 1, 1, 0}, {0, 1, 1, 10}, {LEAST, 0, 1, 1}, {0, FULL, 1, 1}, {0, 1, LEAST, 1}, {0, 1, 1, FULL}};
        for (int[] c : trades) {
            refused("33 trade " + c[0] + " " + c[1] + " " + c[2] + " " + c[3], RICH, x -> x.trade(c[0], c[1], c[2], c[3]), -1);
        }
        int[][] rings = {{-1, 0}, {6, 0}, {0, -1}, {0, 6}, {-1, -1}, {6, 6}, {LEAST, 0}, {0, FULL}, {32, 0}, {0, 32}};
        for (int[] c : rings) {
            refused("34 ring " + c[0] + " " + c[1], RICH, x -> x.ring(c[0], c[1]), -1);
        }
        for (int a : new int[] {-1, 6, 32, LEAST, FULL}) {
            refused("35 back " + a, RICH, x -> x.back(a), -1);
        }
    }

    // "or there are six", "or there are eight"
    private static void listsThatAreFull() {
        Check.Calls full = x -> {
            rich(x);
            for (int i = 0; i < 4; i++) {
                x.piece(9, 9);
                x.test(9, 9);
                x.limit(9);
            }
            for (int i = 0; i < 6; i++) {
                x.trade(2, 3, 1, 1);
            }
        };
        refused("22 six PIECES", full, x -> x.piece(1, 99), -1);
        refused("25 six TESTS", full, x -> x.test(1, 999), -1);
        refused("31 six LIMITS", full, x -> x.limit(999), -1);
        refused("33 eight TRADES", full, x -> x.trade(4, 5, 1, 9), -1);
    }

    // "false if there is none"
    private static void noImage() {
        refused("37 none was taken", RICH, x -> asInt(x.image(false)), 0);
    }

    // "false if there is nothing"
    private static void nothingToUndo() {
        Check.Calls none = x -> {
            rich(x);
            x.state(3);
        };
        refused("36 nothing to undo", none, x -> asInt(x.undo()), 0);
    }

    private static void askingChangesNothing() {
        refused("13 fault 0", RICH, x -> x.fault(0), 2);
        refused("13 fault 1", RICH, x -> x.fault(1), 13);
        refused("14 remain", RICH, x -> x.remain(3, 5), 22);
        refused("15 kind", RICH, x -> x.kind(0, 3), 36);
        refused("16 left", RICH, x -> x.left(1, 3, false), 6);
        refused("16 edge", RICH, x -> x.left(1, 3, true), 3);
        refused("17 want", RICH, x -> x.want(1, 1), 50);
        refused("18 book", RICH, x -> x.book(3, 3), 6);
        refused("38 look", RICH, x -> x.look(9), 77);
        refused("37 taking THE IMAGE", RICH, x -> asInt(x.image(true)), 1);
    }

    // "IN THOUGHT (nothing of it stays; no DRAWS"
    private static void thoughtsStayInThought() {
        refused("19 goes", RICH, x -> x.goes(60, 0), 88);
        refused("19 goes misses", RICH, x -> x.goes(60, 3), 1);
        // 26 are needed: 6 and 22 are the least sum that does.
        refused("20 joins", RICH, x -> x.joins(0, 23, 1), 9);
        refused("21 most", RICH, x -> x.most(0, 50, 2), 2);
        refused("23 cuts", RICH, x -> x.cuts(10, 0), 15);
        refused("24 stalls", RICH, x -> x.stalls(22), 2);
        refused("26 forged", RICH, x -> x.forged(500, 1, 0), 777777);
        refused("27 lookAt", RICH, x -> x.lookAt(500), 0);
        refused("28 crumbs", RICH, x -> x.crumbs(8, 0), 2);
        refused("29 cooks", RICH, x -> x.cooks(1), 3);
        refused("30 waits", RICH, x -> x.waits(0, 0), 8);
        refused("32 dusk", RICH, x -> x.dusk(99, 7, 1), 64);
        refused("34 ring", RICH, x -> x.ring(1, 0), 1);
        refused("35 back", RICH, x -> x.back(0), 2);
    }
}
