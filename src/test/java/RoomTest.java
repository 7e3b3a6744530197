import com.sun.management.ThreadMXBean;
import java.lang.management.ManagementFactory;

/** A call makes no object: what an object needs is made with it. */
public final class RoomTest {
    private static final String TEXT = "man a 50 2;man b 40 0;knows a b;excuse e 11 99 1 30;excuse f 8 50 2 20 once;excuse g 1 99 3 1;"
        + "duty da a 0 2;duty db b 0 3;duty dc a 20 4;test t e;test s f;passes = if wear < 1 then (50 + strong) else trust / wear;"
        + "rain 50;seed 3;";

    public static void main(String[] args) {
        int sum = 0;
        ExcuseMarket warm = Check.reader(TEXT);
        for (int i = 0; i < 3; i++) {
            sum += all(warm);
        }
        ThreadMXBean threads = (ThreadMXBean) ManagementFactory.getThreadMXBean();
        ExcuseMarket x = Check.reader(TEXT);
        long id = Thread.currentThread().getId();
        threads.getThreadAllocatedBytes(id);
        long before = threads.getThreadAllocatedBytes(id);
        long between = threads.getThreadAllocatedBytes(id);
        sum += all(x);
        long after = threads.getThreadAllocatedBytes(id);
        Check.due("bytes made by calls", after - between - (between - before), 0);
        before = threads.getThreadAllocatedBytes(id);
        x = new ExcuseMarket();
        after = threads.getThreadAllocatedBytes(id);
        Check.due("bytes of an object: " + (after - before), after - before < 60000, true);
        Check.due("calls", sum != 0 && x.count(0) == 0, true);
        Check.end("RoomTest");
    }

    private static int all(ExcuseMarket x) {
        int sum = x.buy(0) + x.buy(1) + (x.plan(0, 0) ? 1 : 0) + (x.plan(2, 1) ? 1 : 0) + x.days(1);
        sum += x.man(0, 0) + x.excuse(0, 5) + x.duty(0, 3) + x.told(0, 0, true) + x.rains(7) + x.sell(0) + x.pass(0, 0);
        sum += x.planned(30, 0) + x.trust(0, 30) + x.year(30, 20) + x.cheapest(4, 20) + x.cheapestAt(4, 20, 0) + x.two(-1);
        sum += x.rumour(0, -1) + x.apart(1) + x.sellers(3, 6, 1, 99, -1) + x.calm(0, 0, 70) + x.say(1, 2, 3, 4) + x.span(1, 1, 0);
        sum += x.know(0, 0, 1) + x.fits(0, 1) + x.forget() + (x.hold(0) ? 1 : 0) + (x.undo() ? 1 : 0) + (x.restore(0) ? 1 : 0);
        for (int what = 0; what < 16; what++) {
            sum += x.count(what);
        }
        x.feed(0x6d616e20, 0x61203120, 0x323b2020, 0x20202020, 0x20202020);
        return sum + x.back(2) + x.read() + x.place();
    }
}
