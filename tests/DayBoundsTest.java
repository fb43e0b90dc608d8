/** Bounds of a DAY (9), of WANTS (17), of THE BOOK (18). Above each test stands the sentence it asks. */
public final class DayBoundsTest {
    public static void main(String[] args) {
        daysGoBy();
        feastsOfThisDay();
        feastsOfTheFirstAndLastDay();
        feastsWithoutRoom();
        wantsInTime();
        wantsOfTheLastDay();
        wantsLineByLine();
        wantsThatAreMet();
        itsAgeIsKeepsOrMore();
        drawsBySpoil();
        byPlacesAsTheyWere();
        inspectAboveNought();
        belowInspect();
        theFirstForgedOne();
        coinBelowNought();
        dogsAboveNought();
        belowDogs();
        aDrawOfHowManyThereAre();
        stepsOfADayInOrder();
        wantsByWhat();
        bookByWhat();
        aHundredAndFiftyLines();
        aHundredAndFiftyLinesInADay();
        Check.finish("DayBoundsTest");
    }

    // "DAYS go by (1 .. 60): how many WANTS were MET. NONE, and nothing is done, if one can't be"
    private static void daysGoBy() {
        CrustMarket x = Check.market("kind 50 keeps 30;", "", "on 0 feast 0 for 1;on 30 feast 0 for 1;on 59 feast 0 for 1;on 60 feast 0 for 1;",
            "want 0 1 by 60 pays 1;want 0 1 by 60 pays 1;want 0 1 by 60 pays 1;want 0 1 by 60 pays 1;");
        Check.due("9 no days", x.days(0), -1);
        Check.due("9 -1", x.days(-1), -1);
        Check.due("9 61", x.days(61), -1);
        Check.due("9 nothing is done", x.look(1) + x.look(5) + x.look(8) + x.look(14), 0);
        Check.due("9 sixty: the MET of all", x.days(60), 3);
        Check.due("9 DAY 60", x.look(1), 60);
        Check.due("9 COIN", x.look(3), 103);
        Check.due("9 one", x.days(1), 1);
        Check.due("9 DAY 61", x.look(1), 61);
        Check.due("9 none is MET", x.days(1), 0);
    }

    // "(a) Line by line of FEASTS for this DAY: a FEAST."
    private static void feastsOfThisDay() {
        CrustMarket x = Check.market("kind 50 keeps 30;kind 60 keeps 30;", "", "on 3 feast 1 for 2;on 2 feast 0 for 1;on 3 feast 0 for 3;on 4 feast 0 for 4;");
        x.days(2);
        Check.due("9 none yet", x.look(5), 0);
        x.days(1);
        Check.sizes("9 on DAY 2", x, 45);
        x.days(1);
        Check.sizes("9 on DAY 3, by lines", x, 45, 50, 35);
        Check.line("18", x, 1, 3, 0, 1, 50);
        Check.line("18", x, 2, 3, 0, 0, 35);
        x.days(2);
        Check.due("9 four in all", x.look(5), 4);
    }

    // "(DAY 0 .. 999"
    private static void feastsOfTheFirstAndLastDay() {
        CrustMarket x = Check.market("kind 50 keeps 30;", "", "on 0 feast 0 for 1;on 999 feast 0 for 2;");
        x.days(1);
        Check.due("9 on DAY 0", x.look(5), 1);
        for (int i = 0; i < 16; i++) {
            x.days(60);
        }
        x.days(38);
        Check.due("9 DAY 999", x.look(1), 999);
        Check.due("9 not yet", x.look(5), 1);
        x.days(1);
        Check.due("9 on DAY 999", x.look(5), 2);
        Check.remain("9 of DAY 999", x, 0, 0, 40, 999, 3, 0);
    }

    private static void feastsWithoutRoom() {
        CrustMarket x = Check.market("kind 50 keeps 30;", "", "on 0 feast 0 for 1;on 0 feast 0 for 2;");
        for (int i = 0; i < 13; i++) {
            x.feast(0, 4);
        }
        x.days(1);
        Check.due("9 fourteen", x.look(2), 14);
        Check.due("9 EATEN by both", x.look(5), 15);
        Check.line("18 room for one", x, 13, 0, 0, 0, 45);
        Check.line("18 none for the next", x, 14, 0, 0, 0, 0);
    }

    // "(b) Line by line of WANTS that are not MET, by whose DAY it is not above"
    private static void wantsInTime() {
        for (int by = 1; by <= 3; by++) {
            CrustMarket x = Check.market("kind 50 keeps 30;", "", "on 2 feast 0 for 1;", "want 0 45 by " + by + " pays 7;");
            Check.due("9 nothing yet", x.days(2), 0);
            Check.due("9 on DAY 2 by " + by, x.days(1), by >= 2 ? 1 : 0);
            Check.due("17 MET", x.want(0, 4), by >= 2 ? 1 : 0);
            Check.due("9 COIN", x.look(3), by >= 2 ? 107 : 100);
        }
        CrustMarket y = Check.market("kind 50 keeps 30;", "", "", "want 0 45 by 0 pays 7;");
        y.feast(0, 1);
        Check.due("9 by DAY 0", y.days(1), 1);
    }

    private static void wantsOfTheLastDay() {
        CrustMarket x = Check.market("kind 50 keeps 30;", "", "", "want 0 45 by 999 pays 7;want 0 45 by 999 pays 7;");
        for (int i = 0; i < 16; i++) {
            x.days(60);
        }
        x.days(39);
        x.feast(0, 1);
        Check.due("9 DAY 999", x.look(1), 999);
        Check.due("9 by DAY 999", x.days(1), 1);
        x.feast(0, 1);
        Check.due("9 not behind it", x.days(1), 0);
    }

    private static void wantsLineByLine() {
        CrustMarket x = Check.market("kind 50 keeps 30;", "", "", "want 0 46 by 9 pays 1;want 0 45 by 9 pays 2;want 0 1 by 9 pays 4;");
        x.feast(0, 1);
        Check.due("9 the second takes it ahead of the third", x.days(1), 1);
        Check.due("9 COIN", x.look(3), 102);
        Check.line("18 which: the line; how many went", x, 1, 0, 5, 1, 1);
        x.feast(0, 1);
        x.feast(0, 1);
        Check.due("9 the first takes both", x.days(1), 1);
        Check.line("18 two went", x, 4, 1, 5, 0, 2);
    }

    // "if JOINS of it (told below) are: those go, it is MET, COIN is pays more"
    private static void wantsThatAreMet() {
        CrustMarket x = Check.market("kind 50 keeps 30;kind 50 keeps 30;", "left guests;", "", "want 0 18 by 9 pays 0;want 1 5 by 9 pays 999;");
        x.feast(0, 9);
        x.feast(0, 10);
        x.feast(1, 4);
        Check.due("9 19 of two do not for 18, 4 do not for 5", x.days(1), 0);
        x.feast(0, 10);
        x.feast(1, 6);
        Check.due("9 20 of two do", x.days(1), 2);
        Check.sizes("9 those go", x, 9, 4);
        Check.due("9 pays 0 and 999", x.look(3), 1099);
        Check.due("9 no more than once", x.days(1), 0);
    }

    // "(c) .. is its age KEEPS or more, it goes"
    private static void itsAgeIsKeepsOrMore() {
        for (int keeps = 1; keeps <= 30; keeps += 29) {
            CrustMarket x = Check.market("kind 50 keeps " + keeps + ";");
            x.days(2);
            x.feast(0, 1);
            x.days(keeps);
            Check.due("9 of age " + (keeps - 1) + " at (c) it stays", x.look(2), 1);
            x.days(1);
            Check.due("9 of age " + keeps + " at (c) it goes", x.look(2), 0);
            Check.line("18 spoilt", x, 1, 2 + keeps, 6, 0, 45);
        }
        CrustMarket y = Check.market("kind 50 keeps 2;", "", "", "want 0 45 by 2 pays 9;");
        y.feast(0, 2);
        y.days(2);
        Check.tell(y, 3, "want 0 40 by 2 pays 9;");
        Check.due("9 (b) is ahead of (c)", y.days(1), 1);
    }

    // "else a DRAW of 1000, if spoil is above 0: below spoil it goes"
    private static void drawsBySpoil() {
        int[][] asked = {{0, 0, 0}, {1, 0, 1}, {1, 1, 0}, {500, 499, 1}, {500, 500, 0}, {999, 998, 1}, {999, 999, 0}, {1000, 999, 1}};
        for (int[] a : asked) {
            CrustMarket x = Check.market("kind 50 keeps 30;", "spoil " + a[0] + ";");
            x.feast(0, 1);
            Check.nextDraw(x, a[1]);
            int before = x.look(9);
            x.days(1);
            Check.due("9 spoil " + a[0] + ", drawn " + a[1], x.look(2), 1 - a[2]);
            Check.due("9 spoil " + a[0] + ": a DRAW", x.look(9), a[0] > 0 ? a[1] << 8 : before);
        }
        CrustMarket y = Check.market("kind 50 keeps 1;", "spoil 1000 when age>0;");
        y.feast(0, 1);
        y.days(1);
        y.state(5);
        y.days(1);
        Check.due("9 too old: it goes", y.look(2), 0);
        Check.due("9 too old: no DRAW", y.look(9), 5);
    }

    // "REMAIN by REMAIN (by places as they were ahead of (c))"
    private static void byPlacesAsTheyWere() {
        CrustMarket x = Check.market("kind 90 keeps 30;kind 90 keeps 1;", "left guests;");
        for (int guests = 1; guests <= 12; guests++) {
            x.feast(guests == 6 ? 1 : 0, guests);
        }
        x.days(1);
        Check.told(x, 1, "spoil 500 when size>2;", 1);
        x.state(0);
        x.days(1);
        int state = 0;
        int kept = 2;
        for (int size = 3; size <= 12; size++) {
            if (size == 6) {
                continue;
            }
            state = 1664525 * state + 1013904223;
            if ((state >>> 8) % 1000 >= 500) {
                Check.due("9 by its own DRAW " + size + " stays", x.remain(kept, 1), size);
                kept++;
            }
        }
        Check.due("9 how many stay", x.look(2), kept);
        Check.due("9 a DRAW each, but for the one that is too old", x.look(9), state);
        Check.due("9 those without spoil stay", x.remain(0, 1) * 10 + x.remain(1, 1), 12);
        Check.due("9 the one that is too old goes", x.kind(1, 2), 0);
    }

    // "(d) If INSPECT is above 0, a DRAW of 1000"
    private static void inspectAboveNought() {
        CrustMarket x = Check.forged(9);
        x.state(5);
        x.days(1);
        Check.due("9 INSPECT 0: no DRAW", x.look(9), 5);
        x.set(1, 1);
        x.state(5);
        x.days(1);
        Check.due("9 INSPECT 1: a DRAW", x.look(9), 1664525 * 5 + 1013904223);
        CrustMarket y = new CrustMarket();
        y.set(1, 1000);
        y.days(1);
        Check.due("9 without REMAINS a DRAW too", y.look(9), 1013904223);
        Check.due("9 nothing is found, no fine", y.look(4), 0);
        Check.due("9 nothing is found, COIN stays", y.look(3), 100);
    }

    // "below INSPECT the first FORGED one goes, FINES are one more, COIN is 50 less"
    private static void belowInspect() {
        int[][] asked = {{1, 0, 1}, {1, 1, 0}, {500, 499, 1}, {500, 500, 0}, {999, 999, 0}, {1000, 999, 1}};
        for (int[] a : asked) {
            CrustMarket x = Check.forged(9);
            x.set(0, 100);
            x.set(1, a[0]);
            Check.nextDraw(x, a[1]);
            x.days(1);
            Check.due("9 INSPECT " + a[0] + ", drawn " + a[1], x.look(2), 1 - a[2]);
            Check.due("9 FINES", x.look(4), a[2]);
            Check.due("9 COIN", x.look(3), 100 - 50 * a[2]);
            Check.due("18 lines", x.look(8), 1 + a[2]);
        }
    }

    private static void theFirstForgedOne() {
        CrustMarket x = Check.market("kind 50 keeps 30;kind 60 keeps 30;");
        x.feast(0, 1);
        x.forge(1, 7);
        x.feast(0, 2);
        x.forge(0, 8);
        x.set(1, 1000);
        x.days(1);
        Check.sizes("9 the first FORGED one goes", x, 45, 40, 8);
        Check.line("18 found out", x, 4, 0, 7, 1, 7);
        x.days(1);
        Check.sizes("9 one a DAY", x, 45, 40);
        Check.line("18 found out", x, 5, 1, 7, 0, 8);
        x.days(1);
        Check.sizes("9 the true ones stay", x, 45, 40);
        Check.due("9 two FINES", x.look(4), 2);
        Check.due("9 COIN", x.look(3), 100 - 40 - 100);
        Check.due("18 no line without one", x.look(8), 6);
    }

    // "(may be below 0)"
    private static void coinBelowNought() {
        for (int coin : new int[] {51, 50, 49, 0, -9999}) {
            CrustMarket x = Check.forged(9);
            x.set(0, coin);
            x.set(1, 1000);
            x.days(1);
            Check.due("9 of COIN " + coin, x.look(3), coin - 50);
        }
    }

    // "(e) If DOGS are above 0 and there are REMAINS, a DRAW of 1000"
    private static void dogsAboveNought() {
        CrustMarket x = Check.market("kind 50 keeps 30;");
        x.set(2, 1000);
        x.state(5);
        x.days(1);
        Check.due("9 no REMAINS: no DRAW", x.look(9), 5);
        x.feast(0, 1);
        x.set(2, 0);
        x.days(1);
        Check.due("9 DOGS 0: no DRAW", x.look(9), 5);
        x.set(2, 1);
        Check.nextDraw(x, 1);
        x.days(1);
        Check.due("9 DOGS 1: one DRAW", x.look(9), 256);
        Check.due("9 it stays", x.look(2), 1);
    }

    // "below DOGS a DRAW of how many there are: that one goes"
    private static void belowDogs() {
        int[][] asked = {{1, 0, 1}, {1, 1, 0}, {500, 499, 1}, {500, 500, 0}, {999, 999, 0}, {1000, 999, 1}};
        for (int[] a : asked) {
            CrustMarket x = Check.market("kind 50 keeps 30;");
            x.feast(0, 1);
            x.set(2, a[0]);
            Check.nextDraw(x, a[1]);
            x.days(1);
            int first = a[1] << 8;
            Check.due("9 DOGS " + a[0] + ", drawn " + a[1], x.look(2), 1 - a[2]);
            Check.due("9 a second DRAW if below", x.look(9), a[2] == 1 ? 1664525 * first + 1013904223 : first);
            Check.due("18 lines", x.look(8), 1 + a[2]);
        }
    }

    private static void aDrawOfHowManyThereAre() {
        boolean[] seen = new boolean[14];
        for (int draw = 0; draw < 120; draw++) {
            CrustMarket x = Check.forged(1, 2, 3, 4, 5, 6, 7, 8, 9, 10, 11, 12, 13, 14);
            x.set(2, 1000);
            Check.nextDraw(x, draw * 131072 + draw);
            x.days(1);
            int state = 1664525 * ((draw * 131072 + draw) << 8) + 1013904223;
            int place = (state >>> 8) % 14;
            seen[place] = true;
            Check.line("9 eaten by " + draw, x, 14, 0, 8, 0, place + 1);
            Check.due("9 thirteen stay", x.look(2), 13);
            Check.due("9 the others stay", x.kind(0, 3), 105 - place - 1);
        }
        Check.due("9 the first was drawn", seen[0], true);
        Check.due("9 the last was drawn", seen[13], true);
        CrustMarket y = Check.forged(3);
        y.set(2, 1000);
        Check.nextDraw(y, 77);
        y.days(1);
        Check.due("9 of one that one", y.look(2), 0);
    }

    // (a) to (f), one behind the other
    private static void stepsOfADayInOrder() {
        CrustMarket x = Check.market("kind 50 keeps 2;", "", "on 2 feast 0 for 1;on 2 feast 0 for 2;", "want 0 40 by 2 pays 9;");
        x.forge(0, 3);
        x.forge(0, 4);
        x.days(1);
        x.forge(0, 7);
        x.days(1);
        x.set(1, 1000);
        x.set(2, 1000);
        x.days(1);
        int[][] due = {{2, 0, 0, 45}, {2, 0, 0, 40}, {2, 5, 0, 1}, {2, 6, 0, 3}, {2, 6, 0, 4}, {2, 7, 0, 7}, {2, 8, 0, 45}};
        for (int i = 0; i < due.length; i++) {
            Check.line("9 in order", x, 3 + i, due[i]);
        }
        Check.due("9 no more", x.look(8), 10);
        Check.due("9 (f) DAY is one more", x.look(1), 3);
        Check.due("9 COIN", x.look(3), 100 - 60 + 9 - 50);
    }

    // "what 0 KIND, 1 SIZE, 2 by, 3 pays, 4 1 if it is MET, else 0. NONE if there is none such, or another what."
    private static void wantsByWhat() {
        String twelve = "want 1 2 by 3 pays 4;".repeat(11) + "want 0 1 by 9 pays 8;";
        CrustMarket x = Check.market("kind 50 keeps 30;kind 60 keeps 30;", "", "", twelve);
        int[][] due = {{1, 2, 3, 4, 0}, {0, 1, 9, 8, 0}};
        for (int what = 0; what < 5; what++) {
            Check.due("17 the first, what " + what, x.want(0, what), due[0][what]);
            Check.due("17 the twelfth, what " + what, x.want(11, what), due[1][what]);
            Check.due("17 no thirteenth, what " + what, x.want(12, what), -1);
            Check.due("17 none at -1, what " + what, x.want(-1, what), -1);
        }
        Check.due("17 what 5", x.want(0, 5), -1);
        Check.due("17 what -1", x.want(0, -1), -1);
        x.feast(0, 1);
        x.days(1);
        Check.due("17 MET", x.want(11, 4), 1);
        Check.due("17 not MET", x.want(0, 4), 0);
    }

    // "Of line i of THE BOOK what 0 DAY, 1 what, 2 which, 3 how much. NONE if there is none such, or another what."
    private static void bookByWhat() {
        CrustMarket x = Check.market("kind 50 keeps 30;kind 60 keeps 30;");
        Check.due("18 none yet", x.book(0, 0), -1);
        x.days(2);
        x.feast(1, 1);
        Check.line("18", x, 0, 2, 0, 1, 55);
        Check.due("18 what 4", x.book(0, 4), -1);
        Check.due("18 what -1", x.book(0, -1), -1);
        for (int what = 0; what < 4; what++) {
            Check.due("18 no line 1", x.book(1, what), -1);
            Check.due("18 no line -1", x.book(-1, what), -1);
        }
    }

    // "THE BOOK (150 lines; no more then)"
    private static void aHundredAndFiftyLines() {
        CrustMarket x = Check.market("kind 50 keeps 30;");
        for (int i = 0; i < 149; i++) {
            x.feast(0, 10);
        }
        Check.due("38 149 lines", x.look(8), 149);
        Check.due("18 no line 149", x.book(149, 0), -1);
        x.feast(0, 1);
        Check.due("38 150 lines", x.look(8), 150);
        Check.line("18 line 149", x, 149, 0, 0, 0, 45);
        Check.due("4 a feast all the same", x.feast(0, 2), 40);
        Check.due("38 no more", x.look(8), 150);
        Check.due("18 no line 150", x.book(150, 0), -1);
        Check.line("18 line 149 stays", x, 149, 0, 0, 0, 45);
        Check.line("18 line 0 stays", x, 0, 0, 0, 0, 0);
        Check.sizes("4 but it is done", x, 45, 40);
        Check.due("36 undone", x.undo(), true);
        Check.due("38 still 150", x.look(8), 150);
        Check.due("36 undone", x.undo(), true);
        Check.due("38 149 again", x.look(8), 149);
        Check.due("18 no line 149", x.book(149, 0), -1);
    }

    private static void aHundredAndFiftyLinesInADay() {
        CrustMarket x = Check.market("kind 50 keeps 30;", "", "on 0 feast 0 for 1;on 0 feast 0 for 2;on 0 feast 0 for 3;", "want 0 45 by 0 pays 5;");
        for (int i = 0; i < 148; i++) {
            x.feast(0, 10);
        }
        Check.due("9 MET all the same", x.days(1), 1);
        Check.due("38 150 lines", x.look(8), 150);
        Check.line("18 the first", x, 148, 0, 0, 0, 45);
        Check.line("18 the second", x, 149, 0, 0, 0, 40);
        Check.sizes("9 the rest is done", x, 40, 35);
        Check.due("9 COIN", x.look(3), 105);
        x.undo();
        Check.due("36 148 again", x.look(8), 148);
    }
}
