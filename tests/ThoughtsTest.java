/** Promises 20 (joins), 21 (most), 24 (stalls), 28 (crumbs), 29 (cooks), 30 (waits). */
public final class ThoughtsTest {
    public static void main(String[] args) {
        joins();
        joinsOfMany();
        most();
        stalls();
        stallsOfMany();
        crumbs();
        cooks();
        waits();
        Check.finish("ThoughtsTest");
    }

    private static void joined(CrustMarket x, int kind, int size, int number, int set) {
        Check.due("20 joins " + kind + " of " + size, x.joins(kind, size, 0), number);
        Check.due("20 set " + kind + " of " + size, x.joins(kind, size, 1), set);
    }

    private static void joins() {
        CrustMarket x = Check.forged(30, -50, 20, 20, 10);
        joined(x, 0, 30, 1, 1);
        joined(x, 0, 20, 1, 4);
        joined(x, 0, 21, 1, 1);
        joined(x, 0, 10, 1, 16);
        joined(x, 0, 1, 1, 16);
        joined(x, 0, 31, 2, 12);
        joined(x, 0, 36, 2, 12);
        joined(x, 0, 37, 2, 5);
        joined(x, 0, 45, 2, 5);
        joined(x, 0, 46, 3, 21);
        joined(x, 0, 54, 3, 21);
        joined(x, 0, 55, 3, 13);
        joined(x, 0, 64, 4, 29);
        joined(x, 0, 72, 4, 29);
        joined(x, 0, 73, -1, -1);
        joined(x, 1, 50, 1, 2);
        joined(x, 1, 51, -1, -1);
        Check.due("20 no such kind", x.joins(2, 1, 0), -1);
        Check.due("20 kind below 0", x.joins(-1, 1, 0), -1);
        Check.due("20 size 0", x.joins(0, 0, 0), -1);
        Check.due("20 size 100", x.joins(0, 100, 0), -1);
        Check.due("20 another what", x.joins(0, 1, 2), -1);
        Check.due("20 what below 0", x.joins(0, 1, -1), -1);
        Check.due("20 nothing goes", x.look(2), 5);
    }

    private static void joinsOfMany() {
        CrustMarket x = Check.forged(8, 8, 8, 8, 8, 8, 8, 8, 8, 8, 8, 8, 8, 8);
        joined(x, 0, 99, 14, 16383);
        joined(x, 0, 50, 7, 127);
        joined(x, 0, 51, 8, 255);
        CrustMarket y = Check.forged(1, 2, 3, 4, 5, 6, 7, 8, 9, 10, 11, 12, 13, 14);
        // 67 at least: no five reach it; of six with 67 the least set lacks 10: sizes 14, 13, 12, 11, 9, 8.
        joined(y, 0, 60, 6, 1 << 7 | 1 << 8 | 1 << 10 | 1 << 11 | 1 << 12 | 1 << 13);
    }

    private static void most() {
        CrustMarket x = Check.forged();
        Check.tell(x, 1, "left 10 when guests=4;left 10 when guests=9;left 9;");
        Check.due("21 guests", x.most(0, 1, 0), 4);
        Check.due("21 how much", x.most(0, 1, 1), 10);
        Check.due("21 one by itself", x.most(0, 10, 2), 1);
        Check.due("21 two", x.most(0, 11, 2), 2);
        Check.due("21 two just", x.most(0, 18, 2), 2);
        Check.due("21 three", x.most(0, 19, 2), 3);
        Check.due("21 twenty", x.most(0, 180, 2), 20);
        Check.due("21 more than twenty", x.most(0, 181, 2), -1);
        Check.due("21 size 0", x.most(0, 0, 2), -1);
        Check.due("21 size 1000", x.most(0, 1000, 2), -1);
        Check.due("21 no such kind", x.most(2, 1, 0), -1);
        Check.due("21 kind below 0", x.most(-1, 1, 0), -1);
        Check.due("21 another what", x.most(0, 1, 3), -1);
        Check.due("21 what below 0", x.most(0, 1, -1), -1);
        Check.tell(x, 1, "left 98;");
        Check.due("21 the fewest guests", x.most(0, 1, 0), 1);
        Check.due("21 the greatest size", x.most(0, 999, 2), 12);
        Check.due("21 a greater size", x.most(0, 1000, 2), -1);
        Check.due("21 the least size", x.most(0, 1, 2), 1);
        Check.tell(x, 1, "left 9 when guests=2;left 5;");
        Check.due("21 two guests", x.most(0, 1, 0), 2);
        Check.due("21 by two guests", x.most(0, 1, 1), 9);
        Check.tell(x, 1, "left 9 when guests=1;left 5;");
        Check.due("21 one guest", x.most(0, 1, 0), 1);
        Check.tell(x, 1, "left 0;");
        Check.due("21 nothing is left", x.most(0, 1, 1), 0);
        Check.due("21 nothing never does", x.most(0, 1, 2), -1);
        Check.tell(x, 1, "left guests;");
        Check.due("21 twenty guests", x.most(1, 1, 0), 20);
    }

    private static void stalls() {
        CrustMarket x = Check.forged();
        Check.due("24 none", x.stalls(1), 0);
        Check.due("24 room 0", x.stalls(0), -1);
        Check.due("24 room 100", x.stalls(100), -1);
        CrustMarket y = Check.forged(50, -30, 40, 60, -20);
        Check.due("24 by sizes", y.stalls(99), 3);
        Check.due("24 one too big", y.stalls(59), -1);
        Check.due("24 just", y.stalls(60), 4);
        Check.due("24 three", y.stalls(80), 3);
        Check.due("24 three of 70", y.stalls(70), 3);
        Check.due("24 the first too big", Check.forged(50, 20).stalls(49), -1);
    }

    private static void stallsOfMany() {
        // First fit by falling sizes takes three stalls of ten here; two do.
        CrustMarket x = Check.forged(4, 4, 4, 3, 3, 2);
        Check.due("24 better than first fit", x.stalls(10), 2);
        CrustMarket y = Check.forged(9, 9, 9, 9, 9, 9, 9, 9, 9, 9);
        Check.due("24 ten", y.stalls(9), 10);
        Check.due("24 five", y.stalls(18), 5);
        Check.due("24 all", y.stalls(90), 1);
        y.forge(0, 1);
        Check.due("24 more than ten", y.stalls(90), -1);
    }

    private static void crumbs() {
        CrustMarket x = Check.forged();
        Check.tell(x, 0, "kind 90 keeps 9;kind 80 keeps 9;kind 70 keeps 9;");
        Check.tell(x, 1, "left 10+day when guests<4;left guests-4;");
        Check.tell(x, 2, "on 9 feast 1 for 1;on 9 feast 2 for 2;on 9 feast 1 for 3;on 9 feast 1 for 4;on 9 feast 2 for 5;on 9 feast 0 for 14;");
        Check.due("28 ten", x.crumbs(10, 0), 39);
        Check.due("28 nothing", x.crumbs(0, 0), 8);
        Check.due("28 none", x.crumbs(99, 0), 0);
        // Two lines each of kind 1 and not of it: kind 1; kinds 0 and 2 part one from three.
        Check.due("28 parted", x.crumbs(10, 1), 1);
        Check.due("28 one line", x.crumbs(0, 1), -1);
        Check.due("28 no line", x.crumbs(99, 1), -1);
        Check.due("28 size below 0", x.crumbs(-1, 0), -1);
        Check.due("28 size 100", x.crumbs(100, 0), -1);
        Check.due("28 another what", x.crumbs(10, 2), -1);
        Check.due("28 what below 0", x.crumbs(10, -1), -1);
        x.days(1);
        Check.due("28 another day", x.crumbs(11, 0), 7);
        Check.due("28 one from two alike", x.crumbs(11, 1), 1);
        Check.tell(x, 2, "on 9 feast 2 for 1;on 9 feast 2 for 2;");
        Check.due("28 no kind parts: the least", x.crumbs(11, 1), 0);
    }

    private static void cooks() {
        CrustMarket x = Check.forged(30, -20, 10);
        Check.due("29 no dishes", x.cooks(0), 0);
        Check.due("29 no dishes, set", x.cooks(1), 0);
        Check.tell(x, 4, "dish 10 0 40;dish 6 0 20 1 20;dish 4 0 20;dish 4 0 20;dish 99 0 41;dish 98 1 21;");
        Check.due("29 of several the least", x.cooks(1), 1);
        Check.due("29 worth", x.cooks(0), 10);
        Check.tell(x, 4, "dish 9 0 40;dish 6 0 20 1 20;dish 3 0 20;dish 4 0 20;dish 2;");
        Check.due("29 two of them", x.cooks(1), 26);
        Check.due("29 their worth", x.cooks(0), 12);
        Check.due("29 another what", x.cooks(2), -1);
        Check.due("29 what below 0", x.cooks(-1), -1);
        Check.tell(x, 4, "dish 1;dish 1;dish 1;dish 1;dish 1;dish 1;dish 1;dish 1;dish 1;dish 1;dish 1;dish 1;");
        Check.due("29 all twelve", x.cooks(1), 4095);
        Check.tell(x, 4, "dish 5 1 21;dish 4 0 41;dish 3 1 20;dish 2 0 40;");
        Check.due("29 by kinds", x.cooks(1), 12);
        Check.tell(x, 4, "dish 5 0 40;dish 5 0 40;dish 5 0 40;");
        Check.due("29 the least of alike", x.cooks(1), 1);
        Check.due("29 nothing goes", x.look(2), 3);
    }

    private static void waits() {
        CrustMarket x = new CrustMarket();
        Check.tell(x, 0, "kind 60 keeps 5;kind 60 keeps 30;");
        Check.tell(x, 1, "price 50-age*3 when day>3;price age*10+edges;");
        x.feast(0, 1);
        x.feast(1, 1);
        // Ages 0 .. 4: 3, 13, 23, 33, then 50 - 12.
        Check.due("30 days", x.waits(0, 0), 4);
        Check.due("30 price", x.waits(0, 1), 38);
        x.days(4);
        Check.due("30 now", x.waits(0, 0), 0);
        Check.due("30 price now", x.waits(0, 1), 38);
        Check.due("30 another what", x.waits(0, 2), -1);
        Check.due("30 what below 0", x.waits(0, -1), -1);
        Check.due("30 none such", x.waits(2, 0), -1);
        Check.due("30 below 0", x.waits(-1, 0), -1);
        x.days(1);
        Check.due("30 too old", x.waits(0, 0), -1);
        Check.due("30 too old, price", x.waits(0, 1), -1);
        Check.due("30 the other is not", x.waits(1, 0), 0);
        Check.tell(x, 1, "price 7;");
        Check.due("30 of several the first", x.waits(1, 0), 0);
        Check.tell(x, 1, "price day;");
        Check.due("30 while its age is below 30", x.waits(1, 0), 24);
        Check.due("30 by the day", x.waits(1, 1), 29);
        Check.tell(x, 1, "price 0;");
        Check.due("30 worth nothing", x.waits(1, 1), 0);
        Check.due("30 worth nothing, days", x.waits(1, 0), 0);
        Check.due("30 in thought", x.look(1), 5);
    }
}
