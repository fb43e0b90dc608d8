/** Promises 4 (feast), 5 (forge), 6 (cut), 7 (join), 8 (sell), 14 (remain), 15 (kind), 16 (left). */
public final class StepsTest {
    public static void main(String[] args) {
        feasts();
        feastsWithoutRoom();
        forgings();
        cuts();
        cutsOfOne();
        joinings();
        sales();
        remainsAreTold();
        kindsAreTold();
        leftByLaw();
        leftByDefault();
        Check.finish("StepsTest");
    }

    private static void feasts() {
        CrustMarket x = Check.market("kind 30 keeps 9;kind 6 keeps 9;", "");
        Check.due("4 no such kind", x.feast(2, 1), -1);
        Check.due("4 kind below 0", x.feast(-1, 1), -1);
        Check.due("4 no guests", x.feast(0, 0), -1);
        Check.due("4 too many guests", x.feast(0, 21), -1);
        Check.due("4 nothing is done", x.look(5) + x.look(8) + x.look(14), 0);
        Check.due("4 left", x.feast(0, 3), 15);
        Check.due("4 nothing left", x.feast(0, 20), 0);
        Check.due("4 one left", x.feast(1, 1), 1);
        Check.due("4 eaten", x.look(5), 3);
        Check.due("4 remains", x.look(2), 2);
        x.days(2);
        x.feast(0, 1);
        Check.remain("4", x, 0, 0, 15, 0, 3, 0);
        Check.remain("4", x, 2, 0, 25, 2, 3, 0);
        Check.line("4", x, 0, 0, 0, 0, 15);
        Check.line("4", x, 1, 0, 0, 0, 0);
        Check.line("4", x, 2, 0, 0, 1, 1);
        Check.line("4", x, 3, 2, 0, 0, 25);
    }

    private static void feastsWithoutRoom() {
        CrustMarket x = Check.market("kind 99 keeps 30;", "");
        for (int i = 0; i < 14; i++) {
            Check.due("4 room", x.feast(0, 1), 94);
        }
        Check.due("4 lost", x.feast(0, 1), 0);
        Check.due("4 remains are full", x.look(2), 14);
        Check.due("4 eaten all the same", x.look(5), 15);
        Check.line("4 lost", x, 14, 0, 0, 0, 0);
        Check.due("4 law's left stays", x.left(0, 1, false), 94);
        Check.due("5 no room", x.forge(0, 1), -1);
        Check.due("6 no room", x.cut(0, 1), -1);
    }

    private static void forgings() {
        CrustMarket x = Check.market("kind 5 keeps 9;kind 1 keeps 9;", "");
        Check.due("5 whole", x.forge(0, 5), -1);
        Check.due("5 nothing", x.forge(0, 0), -1);
        Check.due("5 no such kind", x.forge(2, 1), -1);
        Check.due("5 of one nothing is below", x.forge(1, 1), -1);
        x.set(0, 19);
        Check.due("5 too dear", x.forge(0, 4), -1);
        x.set(0, 20);
        x.days(1);
        Check.due("5 just paid", x.forge(0, 4), 0);
        Check.due("5 coin", x.look(3), 0);
        Check.remain("5", x, 0, 0, 4, 1, 9, 1);
        Check.line("5", x, 0, 1, 1, 0, 4);
        x.set(0, 40);
        Check.due("5 place", x.forge(0, 1), 1);
        Check.due("5 eats no whole", x.look(5), 0);
    }

    private static void cuts() {
        CrustMarket x = Check.market("kind 30 keeps 9;", "edge 8;");
        x.feast(0, 2);
        Check.due("6 no such place", x.cut(1, 1), -1);
        Check.due("6 place below 0", x.cut(-1, 1), -1);
        Check.due("6 to all", x.cut(0, 20), -1);
        Check.due("6 to nothing", x.cut(0, 0), -1);
        x.days(1);
        Check.due("6 cut", x.cut(0, 19), 1);
        Check.remain("6 it", x, 0, 0, 19, 0, 9, 0);
        Check.remain("6 new", x, 1, 0, 1, 0, 9, 0);
        Check.line("6", x, 1, 1, 2, 0, 19);
        Check.due("6 again", x.cut(0, 4), 2);
        Check.remain("6 edges at most", x, 0, 0, 4, 0, 9, 0);
        Check.remain("6 edges at most", x, 2, 0, 15, 0, 9, 0);
        Check.due("6 of one", x.cut(1, 1), -1);
        int forged = x.forge(0, 8);
        int half = x.cut(forged, 3);
        Check.remain("6 forged", x, half, 0, 5, 1, 9, 1);
    }

    private static void cutsOfOne() {
        CrustMarket x = Check.market("kind 30 keeps 9;", "");
        x.feast(0, 2);
        Check.due("6 to one", x.cut(0, 1), 1);
        Check.remain("6 one more edge", x, 0, 0, 1, 0, 4, 0);
        Check.remain("6 one more edge", x, 1, 0, 19, 0, 4, 0);
        Check.due("6 of one", x.cut(0, 1), -1);
    }

    private static void joinings() {
        CrustMarket x = Check.market("kind 99 keeps 30;kind 99 keeps 30;", "left guests*7;edge guests;");
        x.feast(0, 2);
        x.feast(1, 2);
        x.days(3);
        x.feast(0, 5);
        x.forge(0, 50);
        Check.due("7 of two kinds", x.join(0, 1), -1);
        Check.due("7 with itself", x.join(0, 0), -1);
        Check.due("7 no such", x.join(0, 4), -1);
        Check.due("7 no such first", x.join(4, 0), -1);
        Check.due("7 below 0", x.join(-1, 0), -1);
        Check.due("7 (35 + 14) * 9 / 10", x.join(2, 0), 44);
        Check.due("7 one goes", x.look(2), 3);
        Check.remain("7 the later stays, with the earlier day", x, 1, 0, 44, 0, 5, 0);
        Check.line("7", x, 4, 3, 3, 0, 44);
        Check.due("7 with a forged one", x.join(1, 2), 84);
        Check.remain("7 forged", x, 1, 0, 84, 0, 9, 1);
        x.feast(0, 14);
        Check.due("7 held to 99", x.join(2, 1), 99);
        Check.remain("7 held", x, 1, 0, 99, 0, 9, 1);
        CrustMarket y = Check.market("kind 2 keeps 9;", "left 1;");
        y.feast(0, 1);
        y.feast(0, 1);
        Check.due("7 the least", y.join(0, 1), 1);
    }

    private static void sales() {
        CrustMarket x = Check.market("kind 99 keeps 30;", "price size*20 when size>20;price 3-size;");
        x.feast(0, 1);
        x.forge(0, 2);
        x.forge(0, 20);
        Check.due("8 none such", x.sell(3), -1);
        Check.due("8 below 0", x.sell(-1), -1);
        Check.due("8 held to 999", x.sell(0), 999);
        Check.due("8 coin", x.look(3), 1059);
        Check.line("8", x, 3, 0, 4, 0, 999);
        Check.remain("8 those behind are one less", x, 0, 0, 2, 0, 9, 1, 1);
        Check.due("8 held to 0", x.sell(1), 0);
        Check.due("8 the last", x.sell(0), 1);
        Check.due("8 coin then", x.look(3), 1060);
        Check.due("8 none left", x.sell(0), -1);
        Check.tell(x, 1, "price 40-age*10-day;spoil age*100;");
        x.feast(0, 1);
        x.days(2);
        Check.due("14 spoil by age", x.remain(0, 6), 200);
        Check.due("8 by age and day", x.sell(0), 18);
    }

    private static void remainsAreTold() {
        CrustMarket x = Check.market("kind 50 keeps 9;kind 40 keeps 9;",
            "price kind*100+whole+size+age*3+edges*7+day+guests;spoil 300 when age>1 and kind=1;spoil 1001 when size<9;");
        x.feast(1, 2);
        x.days(2);
        Check.remain("14", x, 0, 1, 30, 0, 3, 0, 100 + 40 + 30 + 6 + 21 + 2, 300);
        x.feast(1, 7);
        Check.remain("14", x, 1, 1, 5, 2, 3, 0, 100 + 40 + 5 + 21 + 2, 1000);
        Check.due("14 another what", x.remain(0, 7), -1);
        Check.due("14 what below 0", x.remain(0, -1), -1);
        Check.due("14 none such", x.remain(2, 0), -1);
        Check.due("14 below 0", x.remain(-1, 5), -1);
        CrustMarket y = Check.market("kind 50 keeps 9;", "");
        y.feast(0, 1);
        Check.remain("14 without a law", y, 0, 0, 45, 0, 3, 0, 45, 0);
    }

    private static void kindsAreTold() {
        CrustMarket x = Check.market("kind 50 keeps 9;kind 40 keeps 30;", "");
        x.feast(1, 1);
        x.feast(0, 1);
        x.feast(1, 2);
        int[][] due = {{50, 9, 1, 45}, {40, 30, 2, 65}};
        for (int k = 0; k < 2; k++) {
            for (int what = 0; what < 4; what++) {
                Check.due("15 kind " + k + " what " + what, x.kind(k, what), due[k][what]);
            }
        }
        Check.due("15 none such", x.kind(2, 2), -1);
        Check.due("15 below 0", x.kind(-1, 0), -1);
        Check.due("15 another what", x.kind(0, 4), -1);
        Check.due("15 what below 0", x.kind(0, -1), -1);
    }

    private static void leftByLaw() {
        CrustMarket x = Check.market("kind 50 keeps 9;kind 40 keeps 30;");
        Check.faulty(x, 1, "left whole/guests when kind=0;", 1, 11);
        Check.due("16 by a law with a FAULT nothing is told", x.left(0, 3, false), 35);
        Check.told(x, 1, "left whole/3-guests when kind=0;left 1000 when guests=1;left 0-5 when guests=2;left size+age+edges+day;edge day-guests when day>1;edge 12;", 6);
        Check.due("16 left", x.left(0, 3, false), 13);
        Check.due("16 held to whole less 1", x.left(1, 1, false), 39);
        Check.due("16 held to 0", x.left(1, 2, false), 0);
        Check.due("16 facts of no remain are 0", x.left(1, 3, false), 0);
        Check.due("16 edge held to 9", x.left(1, 3, true), 9);
        x.days(5);
        Check.due("16 the day", x.left(1, 3, false), 5);
        Check.due("16 edge by day", x.left(1, 3, true), 2);
        Check.due("16 edge held to 0", x.left(1, 20, true), 0);
    }

    private static void leftByDefault() {
        CrustMarket x = Check.market("kind 50 keeps 9;kind 1 keeps 1;", "");
        Check.due("16 default", x.left(0, 9, false), 5);
        Check.due("16 default at 0", x.left(0, 10, false), 0);
        Check.due("16 default below", x.left(0, 20, false), 0);
        Check.due("16 of one", x.left(1, 1, false), 0);
        Check.due("16 edge", x.left(0, 20, true), 3);
        Check.due("16 no guests", x.left(0, 0, true), -1);
        Check.due("16 too many", x.left(0, 21, true), -1);
        Check.due("16 none such", x.left(2, 1, false), -1);
        Check.due("16 below 0", x.left(-1, 1, false), -1);
    }
}
