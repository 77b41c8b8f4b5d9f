import java.lang.management.ManagementFactory;

/** Objects are used for 512 calls in one room: calls make next to nothing, and none is dear. */
public final class RoomTest {
    private static final long MOST_BYTES = 2_000_000;

    public static void main(String[] args) {
        DiveChairs x = full();
        long before = bytes();
        for (int n = 0; n < 512; n++) {
            dearest(x, n);
        }
        long made = bytes() - before;
        Check.holds("512 times the dearest calls made " + made + " bytes", made < MOST_BYTES);
        before = bytes();
        new DiveChairs();
        made = bytes() - before;
        Check.holds("a new object made " + made + " bytes", made < 200_000);
        Check.finish();
    }

    private static long bytes() {
        return ((com.sun.management.ThreadMXBean) ManagementFactory.getThreadMXBean()).getThreadAllocatedBytes(Thread.currentThread().getId());
    }

    private static DiveChairs full() {
        DiveChairs x = new DiveChairs();
        for (int n = 0; n < 8; n++) {
            x.diver(n % 6, n);
        }
        for (int n = 0; n < 7; n++) {
            x.judge(n, 100 * (n % 6) + 50);
            for (int hall = 0; hall < 6; hall++) {
                x.chair(hall, n, n);
            }
        }
        for (int n = 0; n < 40; n++) {
            x.dive(n < 7 ? 1 : 0, n % 8, n, 2000);
        }
        Check.is("rule", 1, Scene.rule(x, "f((((((s*h+n*m-a*z+p*s/h))))))+[s,{n,m}]+[s,{n,m}]+[s,{n,m}]+[s,{n,m}]+[s,{n,m}]+[s,{n,m}]+[s,{n,m}]+[s,{n,m}];"));
        Check.is("marks", 280, x.markAll(-1));
        x.keep(0, 1, 3);
        return x;
    }

    private static void dearest(DiveChairs x, int n) {
        x.worlds(0, 30, n);
        x.moved(0, n % 8, 1 + n % 3, 1);
        x.pairOdds(0);
        x.orderOdds(1, 0);
        x.order(0);
        x.wonIf(0, 1, 33);
        x.nearest();
        x.seeing(3, 0, 0);
        x.creep(0, 0);
        x.markAll(-1);
        x.image();
        x.restore();
        x.rule(7);
        x.toss(0);
        x.row(1, 2, 120);
        x.copy(1, 0, 1, 1, 119);
    }
}
