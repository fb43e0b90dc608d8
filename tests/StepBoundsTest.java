/** Bounds of the steps (3 to 8) and of what is told of REMAINS and KINDS (14 to 16). Above each test stands its sentence. */
public final class StepBoundsTest {
    public static void main(String[] args) {
        numbersThatAreSet();
        guests();
        whatIsLeftAboveNought();
        lostWithoutRoom();
        aRemainOfAFeast();
        sizesToForge();
        coinToForge();
        aForgedRemain();
        sizesToCut();
        edgesOfBoth();
        bornAndForgedAsItIs();
        twoOfOneKind();
        nineTenthsOfBoth();
        theGreaterTheEarlier();
        aSale();
        remainsByWhat();
        kindsByWhat();
        leftAndEdge();
        Check.finish("StepBoundsTest");
    }

    // "What 0 COIN (-9999 .. 9999), 1 INSPECT, 2 DOGS" (0 .. 1000)
    private static void numbersThatAreSet() {
        int[][] bounds = {{-9999, 9999}, {0, 1000}, {0, 1000}};
        int[] looks = {3, 6, 7};
        for (int what = 0; what < 3; what++) {
            CrustMarket x = new CrustMarket();
            Check.due("3 the least of " + what, x.set(what, bounds[what][0]), true);
            Check.due("38 it is", x.look(looks[what]), bounds[what][0]);
            Check.due("3 below it", x.set(what, bounds[what][0] - 1), false);
            Check.due("38 it stays", x.look(looks[what]), bounds[what][0]);
            Check.due("3 the greatest of " + what, x.set(what, bounds[what][1]), true);
            Check.due("38 it is", x.look(looks[what]), bounds[what][1]);
            Check.due("3 above it", x.set(what, bounds[what][1] + 1), false);
            Check.due("38 it stays", x.look(looks[what]), bounds[what][1]);
            for (int other = 0; other < 3; other++) {
                int first = other == 0 ? 100 : 0;
                Check.due("38 no other is set", x.look(looks[other]), other == what ? bounds[what][1] : first);
            }
        }
        CrustMarket x = new CrustMarket();
        Check.due("3 no what 3", x.set(3, 0), false);
        Check.due("3 no what -1", x.set(-1, 0), false);
    }

    // "N guests 1 .. 20"
    private static void guests() {
        CrustMarket x = Check.market("kind 99 keeps 30;", "left guests;");
        Check.due("4 one guest", x.feast(0, 1), 1);
        Check.due("4 twenty", x.feast(0, 20), 20);
        Check.due("4 none", x.feast(0, 0), -1);
        Check.due("4 21", x.feast(0, 21), -1);
        Check.due("16 one guest", x.left(0, 1, false), 1);
        Check.due("16 twenty", x.left(0, 20, false), 20);
        Check.due("16 none", x.left(0, 0, false), -1);
        Check.due("16 21", x.left(0, 21, false), -1);
        Check.due("4 two feasts", x.look(5), 2);
        Check.due("18 two lines", x.look(8), 2);
        Check.due("36 two steps", x.look(14), 2);
    }

    // "EATEN is one more; what is left (if above 0 .. else .. nothing is left)"
    private static void whatIsLeftAboveNought() {
        CrustMarket x = Check.market("kind 11 keeps 30;");
        Check.due("4 11 less 10", x.feast(0, 2), 1);
        Check.due("4 one REMAIN", x.look(2), 1);
        Check.due("4 11 less 15", x.feast(0, 3), 0);
        Check.due("4 no other REMAIN", x.look(2), 1);
        Check.due("4 EATEN by both", x.look(5), 2);
        Check.line("18 left", x, 0, 0, 0, 0, 1);
        Check.line("18 nothing left", x, 1, 0, 0, 0, 0);
        Check.due("36 a feast that leaves nothing goes back", x.undo(), true);
        Check.due("36 EATEN", x.look(5), 1);
    }

    // "(no room for what is left: it is lost, 0)"
    private static void lostWithoutRoom() {
        CrustMarket x = Check.market("kind 99 keeps 30;");
        for (int i = 0; i < 14; i++) {
            x.feast(0, 1);
        }
        Check.due("4 lost", x.feast(0, 1), 0);
        Check.due("4 EATEN all the same", x.look(5), 15);
        Check.line("18 lost", x, 14, 0, 0, 0, 0);
        Check.due("4 the REMAINS stay", x.kind(0, 3), 14 * 94);
        Check.due("36 it goes back", x.undo(), true);
        Check.due("36 EATEN", x.look(5), 14);
    }

    // "is a REMAIN of that SIZE, at the end, BORN this DAY, EDGES edge, not FORGED"
    private static void aRemainOfAFeast() {
        CrustMarket x = Check.market("kind 40 keeps 30;kind 50 keeps 30;", "edge kind+guests;");
        x.feast(0, 1);
        x.days(7);
        Check.due("4 left", x.feast(1, 3), 35);
        Check.remain("4 the first", x, 0, 0, 35, 0, 1, 0);
        Check.remain("4 at the end", x, 1, 1, 35, 7, 4, 0);
        Check.line("18", x, 1, 7, 0, 1, 35);
    }

    // "To FORGE a KIND at a SIZE below WHOLE"
    private static void sizesToForge() {
        CrustMarket x = Check.market("kind 5 keeps 30;kind 1 keeps 30;kind 2 keeps 30;");
        Check.due("5 size 0", x.forge(0, 0), -1);
        Check.due("5 size 5 of 5", x.forge(0, 5), -1);
        Check.due("5 size 4 of 5", x.forge(0, 4), 0);
        Check.due("5 size 1", x.forge(0, 1), 1);
        Check.due("5 size 1 of 1", x.forge(1, 1), -1);
        Check.due("5 size 0 of 1", x.forge(1, 0), -1);
        Check.due("5 size 1 of 2", x.forge(2, 1), 2);
        Check.due("5 size 2 of 2", x.forge(2, 2), -1);
        Check.due("5 refused ones cost nothing", x.look(3), 40);
        Check.due("18 nor are they in THE BOOK", x.look(8), 3);
        Check.due("36 nor are they steps", x.look(14), 3);
    }

    // "(COIN 20 at least: 20 less)"
    private static void coinToForge() {
        CrustMarket x = Check.market("kind 5 keeps 30;");
        x.set(0, 40);
        Check.due("5 of 40", x.forge(0, 1), 0);
        Check.due("5 20 are left", x.look(3), 20);
        Check.due("5 of 20", x.forge(0, 1), 1);
        Check.due("5 none is left", x.look(3), 0);
        Check.due("5 of none", x.forge(0, 1), -1);
        Check.due("5 none stays", x.look(3), 0);
        x.set(0, 19);
        Check.due("5 of 19", x.forge(0, 1), -1);
        Check.due("5 19 stay", x.look(3), 19);
        x.set(0, -9999);
        Check.due("5 of less than none", x.forge(0, 1), -1);
        Check.due("5 two are forged", x.look(2), 2);
    }

    // "a REMAIN so, EDGES 9, FORGED"
    private static void aForgedRemain() {
        CrustMarket x = Check.market("kind 5 keeps 30;kind 9 keeps 30;", "edge 2;");
        x.days(3);
        x.forge(1, 8);
        Check.remain("5", x, 0, 1, 8, 3, 9, 1);
        Check.line("18 forged", x, 0, 3, 1, 1, 8);
        Check.due("5 no whole is EATEN", x.look(5), 0);
    }

    // "To CUT a REMAIN of SIZE s to t (1 .. s - 1): it has t; a new one s less t"
    private static void sizesToCut() {
        CrustMarket x = Check.forged(5, 2);
        Check.due("6 to 0 of 5", x.cut(0, 0), -1);
        Check.due("6 to 5 of 5", x.cut(0, 5), -1);
        Check.due("6 to 4 of 5", x.cut(0, 4), 2);
        Check.sizes("6 to 4", x, 4, 2, 1);
        Check.due("6 to 1 of 4", x.cut(0, 1), 3);
        Check.sizes("6 to 1", x, 1, 2, 1, 3);
        Check.due("6 to 1 of 1", x.cut(0, 1), -1);
        Check.due("6 to 1 of 2", x.cut(1, 1), 4);
        Check.sizes("6 to 1 of 2", x, 1, 1, 1, 3, 1);
        Check.due("18 refused cuts are not in THE BOOK", x.look(8), 5);
        Check.line("18 what it has then", x, 2, 0, 2, 0, 4);
        Check.line("18 what it has then", x, 3, 0, 2, 0, 1);
    }

    // "(EDGES one more, 9 at most, of both"
    private static void edgesOfBoth() {
        for (int edges = 0; edges <= 9; edges++) {
            CrustMarket x = Check.market("kind 50 keeps 30;", "edge " + edges + ";");
            x.feast(0, 1);
            x.cut(0, 20);
            Check.due("6 it has one more than " + edges, x.remain(0, 3), Math.min(9, edges + 1));
            Check.due("6 the new one too", x.remain(1, 3), Math.min(9, edges + 1));
        }
    }

    // "BORN, FORGED as it is)"
    private static void bornAndForgedAsItIs() {
        CrustMarket x = Check.market("kind 50 keeps 30;");
        x.days(2);
        x.feast(0, 1);
        x.forge(0, 9);
        x.days(3);
        x.cut(0, 20);
        x.cut(1, 4);
        Check.remain("6 a true one", x, 0, 0, 20, 2, 4, 0);
        Check.remain("6 of a true one", x, 2, 0, 25, 2, 4, 0);
        Check.remain("6 a forged one", x, 1, 0, 4, 2, 9, 1);
        Check.remain("6 of a forged one", x, 3, 0, 5, 2, 9, 1);
    }

    // "To JOIN two of one KIND", "NONE if it can't be (alike)"
    private static void twoOfOneKind() {
        CrustMarket x = Check.forged(10, -10, 20);
        Check.due("7 of two KINDS", x.join(0, 1), -1);
        Check.due("7 of two KINDS, the other way", x.join(1, 0), -1);
        Check.due("7 alike", x.join(0, 0), -1);
        Check.due("7 the last alike", x.join(2, 2), -1);
        Check.due("7 no place 3", x.join(0, 3), -1);
        Check.due("7 from no place 3", x.join(3, 0), -1);
        Check.due("7 no place -1", x.join(0, -1), -1);
        Check.due("7 from no place -1", x.join(-1, 0), -1);
        Check.sizes("7 all stay", x, 10, 10, 20);
        Check.due("7 of one KIND", x.join(0, 2), 27);
        Check.sizes("7 b goes", x, 27, 10);
        Check.line("18 the SIZE then", x, 3, 0, 3, 0, 27);
    }

    private static void joined(int a, int b, int due) {
        CrustMarket x = Check.forged(a, b);
        Check.due("7 " + a + " and " + b, x.join(0, 1), due);
        Check.due("14 " + a + " and " + b, x.remain(0, 1), due);
        Check.due("18 " + a + " and " + b, x.book(2, 3), due);
    }

    // "the one has nine tenths of both, downwards, held to 1 .. 99"
    private static void nineTenthsOfBoth() {
        joined(1, 1, 1);
        joined(1, 2, 2);
        joined(5, 5, 9);
        joined(5, 6, 9);
        joined(6, 6, 10);
        joined(55, 54, 98);
        joined(55, 55, 99);
        joined(56, 55, 99);
        joined(56, 56, 99);
        joined(98, 98, 99);
    }

    // "the greater EDGES, the earlier BORN, FORGED, if one was; the other one goes"
    private static void theGreaterTheEarlier() {
        for (int turn = 0; turn < 2; turn++) {
            CrustMarket x = Check.market("kind 50 keeps 30;", "edge guests;");
            x.feast(0, 5);
            x.days(4);
            x.feast(0, 2);
            x.join(turn, 1 - turn);
            Check.remain("7 two true ones", x, 0, 0, 58, 0, 5, 0);
            x.forge(0, 10);
            x.join(turn, 1 - turn);
            Check.remain("7 with a forged one", x, 0, 0, 61, 0, 9, 1);
            x.forge(0, 10);
            x.join(turn, 1 - turn);
            Check.remain("7 two forged ones", x, 0, 0, 63, 0, 9, 1);
        }
    }

    // "To SELL a REMAIN: COIN is price more; it goes."
    private static void aSale() {
        CrustMarket x = Check.market("kind 50 keeps 30;kind 60 keeps 30;", "price size-20;");
        x.days(2);
        x.feast(1, 1);
        x.feast(0, 6);
        x.feast(0, 1);
        Check.due("8 no place 3", x.sell(3), -1);
        Check.due("8 no place -1", x.sell(-1), -1);
        Check.due("8 for nothing", x.sell(1), 0);
        Check.due("8 COIN stays", x.look(3), 100);
        Check.due("8 it goes all the same", x.look(2), 2);
        Check.line("18 for nothing", x, 3, 2, 4, 0, 0);
        Check.due("8 for 35", x.sell(0), 35);
        Check.due("8 35 more", x.look(3), 135);
        Check.line("18 for 35", x, 4, 2, 4, 1, 35);
        Check.due("8 the last", x.sell(0), 25);
        Check.due("8 none is left", x.sell(0), -1);
        CrustMarket y = Check.market("kind 50 keeps 30;", "price 999;");
        y.set(0, 9999);
        y.feast(0, 1);
        y.sell(0);
        Check.due("8 COIN beyond what may be set", y.look(3), 10998);
    }

    // "what 0 KIND, 1 SIZE, 2 BORN, 3 EDGES, 4 FORGED, 5 price, 6 spoil. NONE if there is none such, or another what."
    private static void remainsByWhat() {
        CrustMarket x = Check.market("kind 50 keeps 30;kind 60 keeps 30;", "price 77;spoil 88;");
        x.days(1);
        x.forge(1, 44);
        Check.remain("14", x, 0, 1, 44, 1, 9, 1, 77, 88);
        Check.due("14 what 7", x.remain(0, 7), -1);
        Check.due("14 what -1", x.remain(0, -1), -1);
        for (int what = -1; what <= 7; what++) {
            Check.due("14 no place 1, what " + what, x.remain(1, what), -1);
            Check.due("14 no place -1, what " + what, x.remain(-1, what), -1);
        }
    }

    // "what 0 WHOLE, 1 KEEPS, 2 how many REMAINS of it, 3 their SIZES together. NONE if there is none such, or another what."
    private static void kindsByWhat() {
        CrustMarket x = Check.market("kind 50 keeps 30;kind 60 keeps 20;kind 70 keeps 10;");
        x.feast(0, 1);
        x.feast(1, 1);
        x.feast(1, 2);
        int[][] due = {{50, 30, 1, 45}, {60, 20, 2, 105}, {70, 10, 0, 0}};
        for (int k = 0; k < 3; k++) {
            for (int what = 0; what < 4; what++) {
                Check.due("15 kind " + k + " what " + what, x.kind(k, what), due[k][what]);
            }
            Check.due("15 what 4", x.kind(k, 4), -1);
            Check.due("15 what -1", x.kind(k, -1), -1);
        }
        for (int what = -1; what <= 4; what++) {
            Check.due("15 no KIND 3, what " + what, x.kind(3, what), -1);
            Check.due("15 no KIND -1, what " + what, x.kind(-1, what), -1);
        }
        CrustMarket y = Check.market("kind 99 keeps 30;", "left 98;");
        for (int i = 0; i < 14; i++) {
            y.feast(0, 1);
        }
        Check.due("15 fourteen", y.kind(0, 2), 14);
        Check.due("15 fourteen of 98", y.kind(0, 3), 1372);
    }

    // "left (edge false), edge of a FEAST; NONE if one can't be."
    private static void leftAndEdge() {
        CrustMarket x = Check.market("kind 50 keeps 30;", "left 7;edge 4;");
        Check.due("16 left", x.left(0, 1, false), 7);
        Check.due("16 edge", x.left(0, 1, true), 4);
        for (int turn = 0; turn < 2; turn++) {
            Check.due("16 no KIND 1", x.left(1, 1, turn == 1), -1);
            Check.due("16 no KIND -1", x.left(-1, 1, turn == 1), -1);
            Check.due("16 no guests", x.left(0, 0, turn == 1), -1);
            Check.due("16 21 guests", x.left(0, 21, turn == 1), -1);
        }
        for (int i = 0; i < 14; i++) {
            x.feast(0, 1);
        }
        Check.due("16 by THE LAW, room or not", x.left(0, 1, false), 7);
    }
}
