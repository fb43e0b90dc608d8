import java.lang.management.ManagementFactory;

/** The room of one run: an object takes a small part of it, and its calls nothing more. */
public final class RoomTest {
    private static final int ROUNDS = 16;

    public static void main(String[] args) {
        com.sun.management.ThreadMXBean bean = (com.sun.management.ThreadMXBean) ManagementFactory.getThreadMXBean();
        long most = 0;
        for (int turn = 0; turn < 3; turn++) {
            long start = bean.getCurrentThreadAllocatedBytes();
            CrustMarket x = new CrustMarket();
            long made = bean.getCurrentThreadAllocatedBytes() - start;
            tell(x);
            long told = bean.getCurrentThreadAllocatedBytes();
            long sum = calls(x);
            most = bean.getCurrentThreadAllocatedBytes() - told;
            Check.due("an object's bytes " + made, made < 200000, true);
            Check.due("answers " + (sum == 1), sum == 1, false);
        }
        Check.due("bytes that calls made: " + most, most < 2000, true);
        Check.finish("RoomTest");
    }

    private static void tell(CrustMarket x) {
        Check.tell(x, 0, "kind 99 keeps 30;kind 50 keeps 2;");
        Check.tell(x, 1, "left 9;price size*2-age when edges<5 and (size>3 or not age=1);spoil 1 when size<9;");
        Check.tell(x, 2, "on 0 feast 0 for 1;on 1 feast 1 for 2;on 2 feast 0 for 3;");
        Check.tell(x, 3, "want 0 60 by 99 pays 9;want 0 99 by 99 pays 9;want 1 99 by 99 pays 9;");
        Check.tell(x, 4, "dish 1 0 9;dish 2 0 9;dish 3 0 9;dish 4 0 9;dish 5 0 9;dish 6 0 9;dish 7 0 9;dish 8 0 9;");
        x.set(0, 9999);
        for (int i = 1; i <= 10; i++) {
            x.forge(0, i);
        }
        for (int i = 1; i <= 8; i++) {
            x.piece(i, i);
            x.test(i, i + 1);
            x.limit(i);
            x.trade(i % 2, 1 - i % 2, 9, 9);
        }
    }

    private static long calls(CrustMarket x) {
        long sum = 0;
        for (int i = 0; i < ROUNDS; i++) {
            sum += x.goes(60, i % 4) + x.joins(0, 50, 1) + x.most(0, 99, 2) + x.cuts(99, 10) + x.stalls(20);
            sum += x.forged(500, 1, 2) + x.lookAt(500) + x.crumbs(9, 1) + x.cooks(1) + x.waits(0, 1) + x.dusk(999, 1, 0);
            sum += x.ring(0, 1) + x.back(0) + x.feed(0x6c656674, 0x20312b32, 0x2a73697a, 0x65207768, 0x656e2031);
            sum += x.feed(0x3d31206f, 0x72206e6f, 0x7420313d, 0x313b2020, 0x20202020) + x.text(1) + x.fault(0);
            sum += (x.image(true) ? 1 : 0) + x.days(1) + x.cut(0, 1) + x.join(0, 1) + x.sell(0) + x.feast(0, 1);
            sum += (x.undo() ? 1 : 0) + (x.image(false) ? 1 : 0) + x.look(9);
        }
        return sum;
    }
}
