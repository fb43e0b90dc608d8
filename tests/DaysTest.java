/** Promises 9 (days), 17 (want), 18 (book), 19 (goes). */
public final class DaysTest {
    public static void main(String[] args) {
        daysThatCannotBe();
        feastsAheadOfWants();
        wantsInTime();
        remainsSpoil();
        spoilByDraws();
        inspectors();
        dogs();
        wantsAreTold();
        theBookIsFull();
        goesInThought();
        goesMisses();
        Check.finish("DaysTest");
    }

    private static void daysThatCannotBe() {
        CrustMarket x = Check.market("kind 9 keeps 9;");
        Check.due("9 none", x.days(0), -1);
        Check.due("9 below 0", x.days(-1), -1);
        Check.due("9 too many", x.days(61), -1);
        Check.due("9 nothing done", x.look(1) + x.look(14), 0);
        for (int i = 0; i < 166; i++) {
            x.days(60);
        }
        Check.due("9 day", x.look(1), 9960);
        Check.due("9 beyond the last", x.days(40), -1);
        Check.due("9 day stays", x.look(1), 9960);
        Check.due("9 to the last", x.days(39), 0);
        Check.due("9 the last", x.look(1), 9999);
        Check.due("9 no more", x.days(1), -1);
        Check.due("9 six days are kept", x.look(14), 6);
    }

    private static void feastsAheadOfWants() {
        CrustMarket x = Check.market("kind 30 keeps 9;kind 20 keeps 9;", "",
            "on 1 feast 1 for 1;on 0 feast 0 for 1;on 0 feast 0 for 2;on 0 feast 1 for 9;",
            "want 0 40 by 0 pays 7;want 1 5 by 3 pays 9;want 0 1 by 9 pays 1;");
        Check.due("9 met", x.days(2), 2);
        Check.due("9 coin", x.look(3), 116);
        Check.due("9 eaten", x.look(5), 4);
        Check.line("9 (a)", x, 0, 0, 0, 0, 25);
        Check.line("9 (a)", x, 1, 0, 0, 0, 20);
        Check.line("9 (a) nothing left", x, 2, 0, 0, 1, 0);
        Check.line("9 (b) both go", x, 3, 0, 5, 0, 2);
        Check.line("9 (a)", x, 4, 1, 0, 1, 15);
        Check.line("9 (b)", x, 5, 1, 5, 1, 1);
        Check.due("9 lines", x.look(8), 6);
        Check.due("9 remains", x.look(2), 0);
    }

    private static void wantsInTime() {
        CrustMarket x = Check.market("kind 30 keeps 30;", "", "on 3 feast 0 for 1;on 3 feast 0 for 1;on 3 feast 0 for 2;",
            "want 0 5 by 2 pays 1;want 0 19 by 3 pays 2;want 0 25 by 4 pays 4;");
        Check.due("9 none yet", x.days(3), 0);
        Check.due("9 two by this day", x.days(1), 2);
        Check.due("9 coin", x.look(3), 106);
        Check.due("9 late", x.want(0, 4), 0);
        Check.due("9 the least sum goes", x.remain(0, 1), 25);
        Check.due("9 one stays", x.look(2), 1);
    }

    private static void remainsSpoil() {
        CrustMarket x = Check.market("kind 30 keeps 1;kind 40 keeps 2;", "");
        x.feast(0, 1);
        x.feast(1, 1);
        x.feast(0, 2);
        x.days(1);
        Check.due("9 all keep a day", x.look(2), 3);
        x.days(1);
        Check.due("9 two are too old", x.look(2), 1);
        Check.line("9 (c)", x, 3, 1, 6, 0, 25);
        Check.line("9 (c)", x, 4, 1, 6, 0, 20);
        x.days(1);
        Check.line("9 (c)", x, 5, 2, 6, 1, 35);
        Check.due("9 no draw", x.look(9), 0);
    }

    private static void spoilByDraws() {
        CrustMarket x = Check.market("kind 30 keeps 1;kind 40 keeps 9;", "spoil 564 when size>20;spoil 0;");
        x.feast(1, 1);
        x.feast(1, 4);
        x.feast(1, 3);
        x.days(1);
        // The first draw of 1000 from STATE 0 is 563. The REMAIN of SIZE 20 has spoil 0 and takes none.
        int first = 1013904223;
        int second = 1664525 * first + 1013904223;
        Check.due("9 two draws", x.look(9), second);
        int stays = (second >>> 8) % 1000 < 564 ? 1 : 2;
        Check.due("9 563 is below 564", x.look(2), stays);
        Check.due("9 spoil 0 keeps", x.remain(0, 1), 20);
        CrustMarket y = Check.market("kind 40 keeps 9;", "spoil 563;");
        y.feast(0, 1);
        y.days(1);
        Check.due("9 563 is not below 563", y.look(2), 1);
        CrustMarket z = Check.market("kind 40 keeps 1;", "spoil 1000;");
        z.feast(0, 1);
        Check.tell(z, 1, "");
        z.days(1);
        Check.tell(z, 1, "spoil 1000;");
        z.days(1);
        Check.due("9 too old: no draw", z.look(9), 0);
        Check.due("9 too old: goes", z.look(2), 0);
    }

    private static void inspectors() {
        CrustMarket x = Check.market("kind 30 keeps 9;", "");
        x.feast(0, 1);
        x.set(0, 100);
        x.forge(0, 4);
        x.forge(0, 5);
        x.set(1, 563);
        x.state(0);
        x.days(1);
        Check.due("9 563 is not below 563", x.look(4), 0);
        x.set(1, 564);
        x.state(0);
        x.days(1);
        Check.due("9 the first forged goes", x.remain(1, 1), 5);
        Check.due("9 a fine", x.look(4), 1);
        Check.due("9 fifty less", x.look(3), 10);
        Check.line("9 (d)", x, 3, 1, 7, 0, 4);
        x.state(0);
        x.days(1);
        Check.due("9 below 0", x.look(3), -40);
        Check.due("9 the true one stays", x.look(2), 1);
        x.state(0);
        x.days(1);
        Check.due("9 a draw, but nothing forged", x.look(9), 1013904223);
        Check.due("9 no fine", x.look(4), 2);
        Check.due("9 coin", x.look(3), -40);
        x.set(1, 1);
        x.state(0);
        x.days(1);
        Check.due("9 one of a thousand draws too", x.look(9), 1013904223);
        CrustMarket y = Check.market("kind 30 keeps 9;", "");
        y.forge(0, 4);
        y.set(1, 1000);
        y.days(1);
        Check.due("9 found at place 0", y.look(2), 0);
    }

    private static void dogs() {
        CrustMarket x = Check.market("kind 30 keeps 9;", "");
        x.set(2, 1000);
        x.days(1);
        Check.due("9 no remains, no draw", x.look(9), 0);
        for (int guests = 1; guests <= 5; guests++) {
            x.feast(0, guests);
        }
        x.days(1);
        int first = 1013904223;
        int second = 1664525 * first + 1013904223;
        int eaten = (second >>> 8) % 5;
        Check.due("9 two draws", x.look(9), second);
        Check.due("9 one is eaten", x.look(2), 4);
        Check.line("9 (e)", x, 5, 1, 8, 0, 25 - 5 * eaten);
        x.set(2, 563);
        x.state(0);
        x.days(1);
        Check.due("9 563 is not below 563", x.look(2), 4);
        Check.due("9 one draw then", x.look(9), first);
        x.set(2, 564);
        x.state(0);
        x.days(1);
        Check.due("9 563 is below 564", x.look(2), 3);
        x.set(2, 1);
        x.state(0);
        x.days(1);
        Check.due("9 one of a thousand draws too", x.look(9), first);
        CrustMarket y = Check.market("kind 30 keeps 9;", "");
        y.feast(0, 1);
        y.set(2, 1000);
        y.days(1);
        Check.due("9 the only one is eaten", y.look(2), 0);
    }

    private static void wantsAreTold() {
        CrustMarket x = Check.market("kind 30 keeps 9;kind 30 keeps 9;", "", "", "want 1 99 by 999 pays 0;want 0 1 by 0 pays 999;");
        int[][] due = {{1, 99, 999, 0, 0}, {0, 1, 0, 999, 0}};
        for (int i = 0; i < 2; i++) {
            for (int what = 0; what < 5; what++) {
                Check.due("17 want " + i + " what " + what, x.want(i, what), due[i][what]);
            }
        }
        Check.due("17 none such", x.want(2, 0), -1);
        Check.due("17 below 0", x.want(-1, 0), -1);
        Check.due("17 another what", x.want(0, 5), -1);
        Check.due("17 what below 0", x.want(0, -1), -1);
        x.feast(0, 1);
        x.days(1);
        Check.due("17 met", x.want(1, 4), 1);
        Check.tell(x, 3, "want 1 99 by 999 pays 0;want 0 1 by 0 pays 999;");
        Check.due("17 told anew none is met", x.want(1, 4), 0);
    }

    private static void theBookIsFull() {
        CrustMarket x = Check.market("kind 30 keeps 9;", "");
        for (int i = 0; i < 149; i++) {
            x.feast(0, 20);
        }
        x.forge(0, 7);
        Check.due("18 lines", x.look(8), 150);
        Check.line("18 the last", x, 149, 0, 1, 0, 7);
        x.sell(0);
        Check.due("18 no more", x.look(8), 150);
        Check.due("18 none such", x.book(150, 0), -1);
        Check.due("18 below 0", x.book(-1, 0), -1);
        Check.due("18 another what", x.book(0, 4), -1);
        Check.due("18 what below 0", x.book(0, -1), -1);
        Check.line("18 stays", x, 149, 0, 1, 0, 7);
        x.undo();
        x.undo();
        Check.due("18 undone", x.look(8), 149);
    }

    private static void goesInThought() {
        CrustMarket x = Check.market("kind 30 keeps 2;", "spoil 1000;", "on 0 feast 0 for 1;on 2 feast 0 for 3;",
            "want 0 25 by 1 pays 40;want 0 15 by 60 pays 7;");
        x.set(1, 1000);
        x.set(2, 1000);
        x.forge(0, 14);
        int[][] due = {{120, 1, 1, -1}, {120, 1, 1, -1}, {127, 2, 0, -1}, {127, 2, 0, -1}};
        for (int n = 1; n <= 4; n++) {
            for (int what = 0; what < 4; what++) {
                Check.due("19 goes " + n + " what " + what, x.goes(n, what), due[n - 1][what]);
            }
        }
        Check.due("19 nothing stays", x.look(1) + x.look(8) + x.look(9) + x.look(5), 1);
        Check.due("19 no days", x.goes(0, 0), -100000);
        Check.due("19 too many", x.goes(61, 0), -100000);
        Check.due("19 sixty", x.goes(60, 0), 127);
        Check.due("19 another what", x.goes(1, 4), -100000);
        Check.due("19 what below 0", x.goes(1, -1), -100000);
        Check.due("19 nothing forgotten", x.look(14), 1);
        x.days(1);
        Check.due("19 met before counts", x.goes(1, 1), 1);
    }

    private static void goesMisses() {
        CrustMarket x = Check.market("kind 30 keeps 9;", "", "on 3 feast 0 for 1;",
            "want 0 20 by 5 pays 1;want 0 20 by 4 pays 1;want 0 99 by 2 pays 1;want 0 98 by 2 pays 1;want 0 97 by 0 pays 1;");
        Check.due("19 by day", x.goes(1, 3), 4);
        x.days(1);
        Check.due("19 past days are not asked", x.goes(1, 3), -1);
        Check.due("19 by number", x.goes(2, 3), 2);
        x.days(2);
        Check.due("19 the first line is met", x.goes(1, 1), 1);
        Check.due("19 its day is not in these", x.goes(1, 3), -1);
        Check.due("19 the second is missed", x.goes(2, 3), 1);
        Check.due("19 and is the first", x.goes(60, 3), 1);
        Check.tell(x, 3, "want 0 99 by 5 pays 1;want 0 99 by 5 pays 1;");
        Check.due("19 line 0", x.goes(3, 3), 0);
        Check.due("19 its day is the last of these", x.goes(2, 3), -1);
    }
}
