/** Bounds of what is thought of REMAINS, FEASTS, WANTS and RECIPES (19 to 21, 24, 28 to 30). Above each test its sentence. */
public final class ThoughtBoundsTest {
    public static void main(String[] args) {
        goesForDays();
        goesWithoutDraws();
        goesByKeeps();
        goesWithoutRoom();
        goesMisses();
        goesMissesByDayThenNumber();
        goesByWhat();
        joinsOfASize();
        oneAlone();
        nineTenthsOfTheirSum();
        theFewestRemains();
        theLeastSumThenTheLeastSet();
        joinsOfAll();
        mostGuests();
        mostOfSeveral();
        holds();
        holdsTwenty();
        holdsOfNothing();
        stallsOfARoom();
        stallsOfTen();
        crumbsOfASize();
        crumbsOfTwelveLines();
        parted();
        cooksOfNothing();
        cooksWholeSizes();
        cooksOfSeveral();
        cooksTwelve();
        waitsWhileItKeeps();
        waitsByTheAgeOfThen();
        waitsOfSeveral();
        sizeForGuests();
        goesBehindTheLastDay();
        thoughtsWithoutRoom();
        Check.finish("ThoughtBoundsTest");
    }

    // "GOES for n (1 .. 60) DAYS: COIN then, how many WANTS are MET then, how many REMAINS"
    private static void goesForDays() {
        CrustMarket x = Check.market("kind 50 keeps 30;", "", "on 0 feast 0 for 1;on 1 feast 0 for 1;on 59 feast 0 for 1;on 60 feast 0 for 1;",
            "want 0 45 by 1 pays 3;want 0 45 by 60 pays 9;");
        Check.due("19 no days", x.goes(0, 0), -100000);
        Check.due("19 one: COIN", x.goes(1, 0), 103);
        Check.due("19 one: MET", x.goes(1, 1), 1);
        Check.due("19 one: REMAINS", x.goes(1, 2), 0);
        Check.due("19 two: COIN", x.goes(2, 0), 112);
        Check.due("19 59: REMAINS", x.goes(59, 2), 0);
        Check.due("19 sixty: REMAINS", x.goes(60, 2), 1);
        Check.due("19 sixty: MET", x.goes(60, 1), 2);
        Check.due("19 61", x.goes(61, 0), -100000);
        Check.due("19 nothing stays", x.look(1) + x.look(5) + x.look(8) + x.look(14) + x.want(0, 4), 0);
        CrustMarket none = new CrustMarket();
        Check.due("19 in an empty market", none.goes(60, 0), 100);
        none.set(0, -9999);
        Check.due("19 of COIN -9999", none.goes(60, 0), -9999);
    }

    // "no DRAWS: nothing spoils but by KEEPS, no inspectors, no dogs"
    private static void goesWithoutDraws() {
        CrustMarket x = Check.market("kind 50 keeps 30;", "spoil 1000;");
        x.set(1, 1000);
        x.set(2, 1000);
        x.state(5);
        x.forge(0, 9);
        x.feast(0, 1);
        Check.due("19 REMAINS stay", x.goes(30, 2), 2);
        Check.due("19 COIN stays", x.goes(30, 0), 80);
        Check.due("19 STATE stays", x.look(9), 5);
        Check.due("19 FINES stay", x.look(4), 0);
    }

    private static void goesByKeeps() {
        CrustMarket x = Check.market("kind 50 keeps 3;kind 50 keeps 30;");
        x.feast(0, 1);
        x.feast(1, 1);
        Check.due("19 of age 2 it stays", x.goes(3, 2), 2);
        Check.due("19 of age 3 it goes", x.goes(4, 2), 1);
        Check.due("19 of age 29 it stays", x.goes(30, 2), 1);
        Check.due("19 of age 30 it goes", x.goes(31, 2), 0);
    }

    private static void goesWithoutRoom() {
        CrustMarket x = Check.market("kind 50 keeps 30;", "", "on 0 feast 0 for 1;on 0 feast 0 for 1;");
        for (int i = 0; i < 13; i++) {
            x.feast(0, 1);
        }
        Check.due("19 fourteen at most", x.goes(1, 2), 14);
    }

    // "the first line of WANTS .. that is not MET behind (b) of its DAY, in these DAYS"
    private static void goesMisses() {
        CrustMarket x = Check.market("kind 50 keeps 30;", "", "", "want 0 1 by 5 pays 1;");
        Check.due("19 DAY 5 is not in these", x.goes(5, 3), -1);
        Check.due("19 DAY 5 is", x.goes(6, 3), 0);
        Check.due("19 and in sixty", x.goes(60, 3), 0);
        x.days(5);
        Check.due("19 on its DAY", x.goes(1, 3), 0);
        x.days(1);
        Check.due("19 its DAY is by", x.goes(60, 3), -1);
        Check.tell(x, 3, "want 0 1 by 65 pays 1;");
        Check.due("19 the last of sixty", x.goes(60, 3), 0);
        Check.due("19 not in 59", x.goes(59, 3), -1);
        Check.tell(x, 3, "want 0 1 by 66 pays 1;");
        Check.due("19 not in sixty", x.goes(60, 3), -1);
        Check.tell(x, 3, "want 0 1 by 7 pays 1;");
        Check.tell(x, 2, "on 7 feast 0 for 1;");
        Check.due("19 MET on its DAY", x.goes(60, 3), -1);
        Check.tell(x, 2, "on 8 feast 0 for 1;");
        Check.due("19 not MET on its DAY", x.goes(60, 3), 0);
        CrustMarket y = Check.market("kind 50 keeps 30;", "", "", "want 0 1 by 0 pays 1;");
        Check.due("19 by DAY 0", y.goes(1, 3), 0);
        y.feast(0, 1);
        Check.due("19 MET on DAY 0", y.goes(1, 3), -1);
    }

    // "(by DAY, then number)"
    private static void goesMissesByDayThenNumber() {
        CrustMarket x = Check.market("kind 50 keeps 30;", "", "", "want 0 1 by 5 pays 1;want 0 1 by 3 pays 1;want 0 1 by 3 pays 1;");
        Check.due("19 by DAY", x.goes(60, 3), 1);
        x.feast(0, 1);
        // The first line takes it at once.
        Check.due("19 then by number", x.goes(60, 3), 1);
        x.feast(0, 1);
        Check.due("19 the third", x.goes(60, 3), 2);
        x.feast(0, 1);
        Check.due("19 none", x.goes(60, 3), -1);
    }

    // "NONE - 99999 if one can't be, or another what."
    private static void goesByWhat() {
        CrustMarket x = Check.market("kind 50 keeps 30;");
        Check.due("19 what -1", x.goes(1, -1), -100000);
        Check.due("19 what 0", x.goes(1, 0), 100);
        Check.due("19 what 3", x.goes(1, 3), -1);
        Check.due("19 what 4", x.goes(1, 4), -100000);
    }

    private static void joined(CrustMarket x, int kind, int size, int number, int set) {
        Check.due("20 how many for " + size, x.joins(kind, size, 0), number);
        Check.due("20 the set for " + size, x.joins(kind, size, 1), set);
    }

    // "NONE if none do, one can't be (SIZE 1 .. 99), or another what."
    private static void joinsOfASize() {
        CrustMarket x = Check.forged(98, 98);
        joined(x, 0, 0, -1, -1);
        joined(x, 0, 1, 1, 1);
        joined(x, 0, 98, 1, 1);
        joined(x, 0, 99, 2, 3);
        joined(x, 0, 100, -1, -1);
        joined(x, 1, 1, -1, -1);
        joined(x, 2, 1, -1, -1);
        joined(x, -1, 1, -1, -1);
        Check.due("20 what 2", x.joins(0, 1, 2), -1);
        Check.due("20 what -1", x.joins(0, 1, -1), -1);
    }

    // "one alone by its SIZE"
    private static void oneAlone() {
        CrustMarket x = Check.forged(50);
        joined(x, 0, 49, 1, 1);
        joined(x, 0, 50, 1, 1);
        joined(x, 0, 51, -1, -1);
        CrustMarket y = Check.forged(60, 50, -49, 50);
        joined(y, 0, 49, 1, 2);
        joined(y, 0, 51, 1, 1);
    }

    // "more by nine tenths of their sum"
    private static void nineTenthsOfTheirSum() {
        for (int size = 3; size <= 99; size++) {
            // The least sum of which nine tenths, downwards, are the SIZE.
            int least = 0;
            while (9 * least / 10 < size) {
                least++;
            }
            int other = least - (size - 1);
            joined(Check.forged(size - 1, other), 0, size, 2, 3);
            if (other > 1) {
                joined(Check.forged(size - 1, other - 1), 0, size, -1, -1);
            }
        }
        joined(Check.forged(1, 1), 0, 2, -1, -1);
        joined(Check.forged(1, 1, 1), 0, 2, 3, 7);
    }

    // "the fewest REMAINS of it that do"
    private static void theFewestRemains() {
        CrustMarket x = Check.forged(10, 10, 10, 40, 41);
        joined(x, 0, 41, 1, 16);
        joined(x, 0, 42, 2, 9);
        joined(x, 0, 45, 2, 9);
        joined(x, 0, 46, 2, 24);
        joined(x, 0, 72, 2, 24);
        joined(x, 0, 73, 3, 25);
        joined(x, 0, 99, 5, 31);
        CrustMarket y = Check.forged(10, 10, 10, 40, 40);
        joined(y, 0, 99, 5, 31);
        CrustMarket z = Check.forged(10, 10, 10, 40, 39);
        joined(z, 0, 99, -1, -1);
        joined(z, 0, 98, 5, 31);
    }

    // "of several with so many the least sum, then the least set"
    private static void theLeastSumThenTheLeastSet() {
        joined(Check.forged(9, 7, 8), 0, 6, 1, 2);
        joined(Check.forged(9, 7, 7), 0, 6, 1, 2);
        joined(Check.forged(30, 20, 25, 22), 0, 36, 2, 10);
        joined(Check.forged(20, 22, 21, 21), 0, 37, 2, 3);
        joined(Check.forged(21, 22, 20, 21), 0, 37, 2, 6);
        joined(Check.forged(22, 21, 21, 20), 0, 37, 2, 6);
        joined(Check.forged(5, -9, 5, 5, 5), 0, 9, 2, 5);
    }

    private static void joinsOfAll() {
        CrustMarket x = Check.forged(8, 8, 8, 8, 8, 8, 8, 8, 8, 8, 8, 8, 8, 6);
        joined(x, 0, 99, 14, 16383);
        CrustMarket y = Check.forged(8, 8, 8, 8, 8, 8, 8, 8, 8, 8, 8, 8, 8, 5);
        joined(y, 0, 99, -1, -1);
        joined(y, 0, 98, 14, 16383);
    }

    // "MOST of a KIND: for how many guests (1 .. 20) a FEAST leaves most"
    private static void mostGuests() {
        CrustMarket x = Check.market("kind 50 keeps 30;kind 60 keeps 30;", "left guests when kind=0;left 41-guests;");
        Check.due("21 twenty guests", x.most(0, 1, 0), 20);
        Check.due("21 how much", x.most(0, 1, 1), 20);
        Check.due("21 one guest", x.most(1, 1, 0), 1);
        Check.due("21 how much", x.most(1, 1, 1), 40);
        Check.due("21 no KIND 2", x.most(2, 1, 0), -1);
        Check.due("21 no KIND -1", x.most(-1, 1, 0), -1);
        Check.due("21 what 3", x.most(0, 1, 3), -1);
        Check.due("21 what -1", x.most(0, 1, -1), -1);
        Check.tell(x, 1, "left 49 when guests=0;left 49 when guests>20;left 9 when guests=7;left 8;");
        Check.due("21 neither none nor 21", x.most(0, 1, 0), 7);
        Check.due("21 but seven", x.most(0, 1, 1), 9);
    }

    // "(of several the fewest)"
    private static void mostOfSeveral() {
        CrustMarket x = Check.market("kind 50 keeps 30;", "left 9 when guests=19;left 9 when guests=20;left 8;");
        Check.due("21 of two", x.most(0, 1, 0), 19);
        Check.tell(x, 1, "left 9;");
        Check.due("21 of all", x.most(0, 1, 0), 1);
        Check.tell(x, 1, "left 0;");
        Check.due("21 of all that leave nothing", x.most(0, 1, 0), 1);
        Check.due("21 nothing", x.most(0, 1, 1), 0);
        Check.tell(x, 1, "left 99-guests;");
        Check.due("21 of all, held to WHOLE less 1", x.most(0, 1, 0), 1);
        Check.due("21 WHOLE less 1", x.most(0, 1, 1), 49);
    }

    // "HOLDS for a SIZE: how few FEASTS of that do for it (one by itself, more by nine tenths of all"
    private static void holds() {
        CrustMarket x = Check.market("kind 50 keeps 30;", "left 10;");
        int[][] due = {{0, -1}, {1, 1}, {9, 1}, {10, 1}, {11, 2}, {18, 2}, {19, 3}, {27, 3}, {28, 4}, {171, 19}, {172, 20}, {180, 20}, {181, -1}};
        for (int[] d : due) {
            Check.due("21 HOLDS of 10 for " + d[0], x.most(0, d[0], 2), d[1]);
        }
        Check.tell(x, 1, "left 11;");
        Check.due("21 nine tenths of 22 are 19", x.most(0, 19, 2), 2);
        Check.due("21 nine tenths of 22 are not 20", x.most(0, 20, 2), 3);
        Check.tell(x, 1, "left 1;");
        Check.due("21 one of 1", x.most(0, 1, 2), 1);
        Check.due("21 three of 1 for 2", x.most(0, 2, 2), 3);
        Check.due("21 twenty of 1 for 18", x.most(0, 18, 2), 20);
        Check.due("21 more for 19", x.most(0, 19, 2), -1);
    }

    // "20 at most)", "(of SIZE 1 .. 999)"
    private static void holdsTwenty() {
        CrustMarket x = Check.market("kind 99 keeps 30;", "left 55;");
        Check.due("21 twenty of 55 for 990", x.most(0, 990, 2), 20);
        Check.due("21 more for 991", x.most(0, 991, 2), -1);
        Check.tell(x, 1, "left 56;");
        Check.due("21 twenty of 56 for 999", x.most(0, 999, 2), 20);
        Check.due("21 no SIZE 1000", x.most(0, 1000, 2), -1);
        Check.tell(x, 1, "left 98;");
        Check.due("21 twelve of 98 for 999", x.most(0, 999, 2), 12);
        Check.due("21 no SIZE 1000", x.most(0, 1000, 2), -1);
        Check.due("21 no SIZE 0", x.most(0, 0, 2), -1);
        Check.due("21 no SIZE -1", x.most(0, -1, 2), -1);
    }

    private static void holdsOfNothing() {
        CrustMarket x = Check.market("kind 1 keeps 30;");
        Check.due("21 nothing is left", x.most(0, 1, 1), 0);
        Check.due("21 nothing does", x.most(0, 1, 2), -1);
    }

    // "STALLS of c (1 .. 99) each: the fewest on which all REMAINS lie by their SIZES", "NONE if one is too big"
    private static void stallsOfARoom() {
        CrustMarket none = new CrustMarket();
        Check.due("24 of 0", none.stalls(0), -1);
        Check.due("24 none on none of 1", none.stalls(1), 0);
        Check.due("24 none on none of 99", none.stalls(99), 0);
        Check.due("24 of 100", none.stalls(100), -1);
        CrustMarket x = Check.forged(40, 30, 29);
        Check.due("24 too big by one", x.stalls(39), -1);
        Check.due("24 just as big", x.stalls(40), 3);
        Check.due("24 30 and 29", x.stalls(58), 3);
        Check.due("24 30 and 29 on 59", x.stalls(59), 2);
        Check.due("24 all on 99", x.stalls(99), 1);
        Check.due("24 all but on 98", x.stalls(98), 2);
        CrustMarket y = Check.forged(1, -1);
        Check.due("24 one each", y.stalls(1), 2);
        Check.due("24 of two KINDS on one", y.stalls(2), 1);
        Check.due("24 of 0", y.stalls(0), -1);
        Check.due("24 of 100", y.stalls(100), -1);
        CrustMarket z = Check.forged(55, 55);
        z.join(0, 1);
        Check.due("24 99 on 99", z.stalls(99), 1);
        Check.due("24 99 on 98", z.stalls(98), -1);
    }

    // "(10 REMAINS at most)", "there are more than ten"
    private static void stallsOfTen() {
        CrustMarket x = Check.forged(50, 50, 50, 50, 50, 50, 50, 50, 50, 50);
        Check.due("24 ten on ten", x.stalls(99), 10);
        x.forge(0, 1);
        Check.due("24 eleven", x.stalls(99), -1);
        x.sell(10);
        x.sell(0);
        x.forge(0, 49);
        Check.due("24 one of 49 beside one of 50", x.stalls(99), 9);
        // Perfect only one way: 9 + 1, 8 + 2, 7 + 3, 6 + 4, 5 + 5.
        CrustMarket y = Check.forged(9, 8, 7, 6, 5, 5, 4, 3, 2, 1);
        Check.due("24 five just filled", y.stalls(10), 5);
        CrustMarket z = Check.forged(6, 6, 5, 5, 5, 4, 4, 4, 4, 7);
        // They are 50 together, but nothing just fills up the stall of 7.
        Check.due("24 six", z.stalls(10), 6);
    }

    // "CRUMBS of a SIZE: FEASTS' lines which would leave just so much now (a set)"
    private static void crumbsOfASize() {
        CrustMarket x = Check.market("kind 99 keeps 30;", "left 98 when guests=1;left 0 when guests=2;left day+5;", "on 9 feast 0 for 1;on 9 feast 0 for 2;on 9 feast 0 for 3;");
        Check.due("28 SIZE -1", x.crumbs(-1, 0), -1);
        Check.due("28 SIZE 0", x.crumbs(0, 0), 2);
        Check.due("28 SIZE 98", x.crumbs(98, 0), 1);
        Check.due("28 SIZE 99", x.crumbs(99, 0), 0);
        Check.due("28 SIZE 100", x.crumbs(100, 0), -1);
        Check.due("28 now", x.crumbs(5, 0), 4);
        Check.due("28 not on its DAY", x.crumbs(14, 0), 0);
        x.days(1);
        Check.due("28 a DAY later", x.crumbs(6, 0), 4);
        Check.due("28 no more", x.crumbs(5, 0), 0);
        Check.due("28 what 2", x.crumbs(0, 2), -1);
        Check.due("28 what -1", x.crumbs(0, -1), -1);
        CrustMarket none = new CrustMarket();
        Check.due("28 no FEASTS", none.crumbs(0, 0), 0);
        Check.due("28 no FEASTS, PARTED", none.crumbs(0, 1), -1);
    }

    private static void crumbsOfTwelveLines() {
        CrustMarket x = Check.market("kind 50 keeps 30;kind 60 keeps 30;", "left 7;", "on 9 feast 0 for 1;".repeat(11) + "on 9 feast 1 for 2;");
        Check.due("28 all twelve", x.crumbs(7, 0), 4095);
        Check.due("28 none", x.crumbs(8, 0), 0);
        Check.due("28 eleven and one, alike by both KINDS", x.crumbs(7, 1), 0);
        Check.tell(x, 1, "left 7 when guests=2;left 6;");
        Check.due("28 the twelfth", x.crumbs(7, 0), 2048);
    }

    // "PARTED: the KIND for which .. the greater number of those of it and those not of it is least; of several the least KIND", "(NONE: fewer than two lines)"
    private static void parted() {
        CrustMarket x = Check.market("kind 50 keeps 30;".repeat(4), "left 7;", "on 9 feast 3 for 1;");
        Check.due("28 of one line", x.crumbs(7, 1), -1);
        Check.due("28 of no line", x.crumbs(8, 1), -1);
        Check.tell(x, 2, "on 9 feast 3 for 1;on 9 feast 2 for 1;");
        Check.due("28 of two: the lesser KIND", x.crumbs(7, 1), 2);
        Check.tell(x, 2, "on 9 feast 3 for 1;on 9 feast 3 for 1;");
        Check.due("28 none parts them: the least KIND", x.crumbs(7, 1), 0);
        Check.tell(x, 2, "on 9 feast 1 for 1;on 9 feast 3 for 1;on 9 feast 3 for 1;on 9 feast 2 for 1;");
        Check.due("28 two and two", x.crumbs(7, 1), 3);
        Check.tell(x, 2, "on 9 feast 1 for 1;on 9 feast 3 for 1;on 9 feast 3 for 1;on 9 feast 3 for 1;");
        Check.due("28 three and one by two KINDS", x.crumbs(7, 1), 1);
        Check.due("28 what 2", x.crumbs(7, 2), -1);
        Check.due("28 SIZE 100", x.crumbs(100, 1), -1);
        Check.due("28 SIZE -1", x.crumbs(-1, 1), -1);
    }

    private static void cooked(CrustMarket x, String recipes, int worth, int set) {
        Check.due("12 " + recipes, Check.tell(x, 4, recipes) >= 0, true);
        Check.due("29 worth of " + recipes, x.cooks(0), worth);
        Check.due("29 set of " + recipes, x.cooks(1), set);
    }

    // "COOKS what 0 worth, 1 the set of dishes. NONE for another what."
    private static void cooksOfNothing() {
        CrustMarket x = Check.market("kind 50 keeps 30;");
        Check.due("29 no dishes", x.cooks(0), 0);
        Check.due("29 no dishes, set", x.cooks(1), 0);
        Check.due("29 what 2", x.cooks(2), -1);
        Check.due("29 what -1", x.cooks(-1), -1);
        cooked(x, "dish 99 0 1;", 0, 0);
        cooked(x, "dish 1;", 1, 1);
        cooked(x, "dish 9 0 1;dish 1;", 1, 2);
    }

    // "of all REMAINS by KINDS (SIZES added), whole sizes being needed"
    private static void cooksWholeSizes() {
        CrustMarket x = Check.forged(20, -5, 10);
        cooked(x, "dish 9 0 30;", 9, 1);
        cooked(x, "dish 9 0 31;", 0, 0);
        cooked(x, "dish 9 1 5;", 9, 1);
        cooked(x, "dish 9 1 6;", 0, 0);
        cooked(x, "dish 9 0 30 1 5;", 9, 1);
        cooked(x, "dish 9 0 30 1 6;", 0, 0);
        cooked(x, "dish 9 0 15;dish 8 0 15;", 17, 3);
        cooked(x, "dish 9 0 15;dish 8 0 16;", 9, 1);
        cooked(x, "dish 8 0 15;dish 9 0 16;", 9, 2);
        Check.due("29 nothing goes", x.look(2), 3);
    }

    // "the most worth of dishes, each once at most .. the set (of several the least)"
    private static void cooksOfSeveral() {
        CrustMarket x = Check.forged(30);
        cooked(x, "dish 5 0 10;", 5, 1);
        cooked(x, "dish 5 0 30;dish 5 0 30;", 5, 1);
        cooked(x, "dish 2 0 15;dish 3 0 15;dish 5 0 30;", 5, 3);
        cooked(x, "dish 5 0 30;dish 2 0 15;dish 3 0 15;", 5, 1);
        cooked(x, "dish 2 0 15;dish 5 0 30;dish 3 0 15;", 5, 2);
        cooked(x, "dish 2 0 15;dish 4 0 30;dish 3 0 15;", 5, 5);
        cooked(x, "dish 7 0 30;dish 4 0 15;dish 4 0 15;", 8, 6);
    }

    private static void cooksTwelve() {
        CrustMarket x = Check.forged(12);
        cooked(x, "dish 1 0 1;".repeat(12), 12, 4095);
        cooked(x, "dish 1 0 1;".repeat(11) + "dish 1 0 2;", 11, 2047);
        cooked(x, "dish 1 0 1;".repeat(11) + "dish 3 0 2;", 13, 3071);
        cooked(x, "dish 1 0 1;".repeat(11) + "dish 99 0 12;", 99, 2048);
    }

    private static void waited(CrustMarket x, int place, int days, int price) {
        Check.due("30 DAYS at " + place, x.waits(place, 0), days);
        Check.due("30 the price at " + place, x.waits(place, 1), price);
    }

    // "in how many DAYS (0 .. 30, while its age is below KEEPS then)", "NONE if there is none such, it is too old, or another what."
    private static void waitsWhileItKeeps() {
        CrustMarket x = Check.market("kind 50 keeps 30;kind 50 keeps 1;kind 50 keeps 3;", "price age+10;");
        x.feast(0, 1);
        x.feast(1, 1);
        x.feast(2, 1);
        waited(x, 0, 29, 39);
        waited(x, 1, 0, 10);
        waited(x, 2, 2, 12);
        waited(x, 3, -1, -1);
        waited(x, -1, -1, -1);
        Check.due("30 what 2", x.waits(0, 2), -1);
        Check.due("30 what -1", x.waits(0, -1), -1);
        x.days(1);
        waited(x, 0, 28, 39);
        waited(x, 1, -1, -1);
        waited(x, 2, 1, 12);
        x.days(1);
        waited(x, 1, 0, 12);
        x.days(27);
        waited(x, 0, 0, 39);
        x.days(1);
        Check.due("30 it is there yet", x.look(2), 1);
        waited(x, 0, -1, -1);
    }

    // "price asked with the age and DAY of then, all else as now"
    private static void waitsByTheAgeOfThen() {
        CrustMarket x = Check.market("kind 50 keeps 9;", "price 10+day when day<6;price 3;");
        x.days(2);
        x.feast(0, 1);
        waited(x, 0, 3, 15);
        Check.tell(x, 1, "price 10+age when age<6;price 3;");
        waited(x, 0, 5, 15);
        Check.tell(x, 1, "price size+edges*2-age+guests*99;");
        waited(x, 0, 0, 51);
        Check.tell(x, 1, "price size;spoil 1000;");
        waited(x, 0, 0, 45);
        Check.tell(x, 1, "price age*500;");
        waited(x, 0, 2, 999);
    }

    // "of several the first"
    private static void waitsOfSeveral() {
        CrustMarket x = Check.market("kind 50 keeps 30;", "price 7;");
        x.feast(0, 1);
        waited(x, 0, 0, 7);
        Check.tell(x, 1, "price 0;");
        waited(x, 0, 0, 0);
        Check.tell(x, 1, "price 9 when age=4;price 9 when age=5;price 8;");
        waited(x, 0, 4, 9);
        Check.tell(x, 1, "price 9 when age=29;price 8;");
        waited(x, 0, 29, 9);
        Check.tell(x, 1, "price 9 when age=30;price 8;");
        waited(x, 0, 0, 8);
    }

    // "MOST what 0 guests, 1 how much is left; HOLDS what 2 (of SIZE 1 .. 999)": only HOLDS has a SIZE
    private static void sizeForGuests() {
        CrustMarket x = Check.market("kind 50 keeps 30;", "left 20-guests;");
        for (int size : new int[] {-1, 0, 1000, Integer.MAX_VALUE, Integer.MIN_VALUE}) {
            Check.due("21 guests, whatever the SIZE " + size, x.most(0, size, 0), 1);
            Check.due("21 how much, whatever the SIZE " + size, x.most(0, size, 1), 19);
            Check.due("21 HOLDS for SIZE " + size, x.most(0, size, 2), -1);
        }
    }

    // Only days() names DAY 9999 as a bound of its own, beside one that can't be.
    private static void goesBehindTheLastDay() {
        CrustMarket x = Check.market("kind 50 keeps 3;");
        for (int i = 0; i < 166; i++) {
            x.days(60);
        }
        x.days(39);
        x.feast(0, 1);
        Check.due("9 no DAY behind 9999", x.days(1), -1);
        Check.due("19 in thought three", x.goes(3, 2), 1);
        Check.due("19 in thought sixty", x.goes(60, 2), 0);
        Check.due("19 DAY stays", x.look(1), 9999);
    }

    // What a FEAST would leave is asked of THE LAW, room or not.
    private static void thoughtsWithoutRoom() {
        CrustMarket x = Check.market("kind 50 keeps 30;", "", "on 9 feast 0 for 1;on 9 feast 0 for 2;");
        for (int i = 0; i < 14; i++) {
            x.feast(0, 9);
        }
        Check.due("4 no room", x.feast(0, 1), 0);
        Check.due("16 left", x.left(0, 1, false), 45);
        Check.due("21 how much", x.most(0, 1, 1), 45);
        Check.due("28 the first line", x.crumbs(45, 0), 1);
        Check.due("28 the second line", x.crumbs(40, 0), 2);
        Check.due("28 neither leaves nothing", x.crumbs(0, 0), 0);
    }
}
