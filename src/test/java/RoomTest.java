import java.lang.management.ManagementFactory;

/** No call makes objects, so that a run of calls stays in its room; and the dearest calls come to an end. */
public final class RoomTest {
    private static final Checks C = new Checks();

    public static void main(String[] args) {
        HuntingRudder x = new HuntingRudder();
        callAll(x);
        callAll(x);
        com.sun.management.ThreadMXBean bean = (com.sun.management.ThreadMXBean) ManagementFactory.getThreadMXBean();
        long id = Thread.currentThread().getId();
        bean.getThreadAllocatedBytes(id);
        long before = bean.getThreadAllocatedBytes(id);
        callAll(x);
        long made = bean.getThreadAllocatedBytes(id) - before;
        C.due("bytes made by one round of all calls are few: " + made, made < 2_000, true);
        before = bean.getThreadAllocatedBytes(id);
        HuntingRudder y = new HuntingRudder();
        made = bean.getThreadAllocatedBytes(id) - before;
        C.due("bytes of a new object are few: " + made, made < 100_000 && y.count(0) == 0, true);
        C.end("RoomTest");
    }

    private static final String TEXT = "gear a if b or not c;gear b;gear c if a;safe a or b or c;row 1 30 -30;row 9 5;row 2 -9 9;"
        + "if off*off*off/7>turn*9999 or ram<>rudder wheel 0-off/9-turn*5+(wheel-ram)*2/3;"
        + "if off<0 and turn<0 or off>0 and turn>0 wheel 0-off-turn*3;wheel 1-off/7;";

    private static void callAll(HuntingRudder x) {
        Checks.read(x, TEXT);
        x.text(-1);
        x.fault(0);
        x.part(0, 2);
        x.part(0, 0);
        x.ship(2, 3);
        Checks.row(x, 0, 0);
        x.led(1000, 1500, 4);
        x.steer(0, 1000, 1500, 4);
        x.hunt(777, 0);
        x.worst(-1700, 1700, 1, 200, 0);
        x.holds(1, 500);
        x.wipe();
        x.mark(200, x.led(50, 200, 4) == 1000 ? 999 : 1000);
        x.fits(0, 50, 0);
        x.fits(3600, 50, 0);
        x.wipe();
        x.mark(1, 50);
        x.fits(0, 50, 1);
        x.suspect(0, 50, 0, 0);
        x.parts(0, 50, 200, 0);
        x.named(1);
        x.safe(3);
        x.drill(1, 6, 0);
        x.begin(0);
        for (int k = 0; k < 100; k++) {
            x.order(k % 30);
        }
        x.back();
        x.now(0);
        x.count(3);
    }
}
