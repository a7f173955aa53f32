import com.sun.management.ThreadMXBean;
import java.lang.management.ManagementFactory;

/** All calls of a run live in one room: what is made is made with the object, and no call makes more. */
public final class RoomTest {
    private static final String LAW = "add like/9-back+kind when not (same=1 and like<back) or strong>3;"
            + "fight 1 when own>across;home own when day>70;name size;slip like+strong*2 when same=0;see like+knew;";

    public static void main(String[] args) {
        ThreadMXBean bean = (ThreadMXBean) ManagementFactory.getThreadMXBean();
        long id = Thread.currentThread().getId();
        Checks c = new Checks();
        new TwoCamps();
        long before = bean.getThreadAllocatedBytes(id);
        TwoCamps x = new TwoCamps();
        long object = bean.getThreadAllocatedBytes(id) - before;
        c.due("an object of " + object + " bytes is no more than 200000", object <= 200000, true);
        fill(x);
        calls(x);
        before = bean.getThreadAllocatedBytes(id);
        for (int k = 0; k < 20; k++) {
            calls(x);
        }
        long calls = bean.getThreadAllocatedBytes(id) - before;
        c.due("calls that made " + calls + " bytes made nearly nothing", calls < 20000, true);
        c.end("RoomTest");
    }

    private static void fill(TwoCamps x) {
        for (int i = 0; i < 24; i++) {
            x.boy(i % 2, i % 10);
            x.number(i, i * 4);
        }
        for (int i = 0; i < 24; i++) {
            x.like(i, (i * 7 + 1) % 24, i * 4 - 50);
        }
        Checks.law(x, 0, LAW);
        Checks.law(x, 1, LAW);
        Checks.plan(x, 0, "stir 0;against 5;".repeat(12));
        for (int kind = 0; kind < 5; kind++) {
            x.row(kind % 4);
        }
    }

    private static void calls(TwoCamps x) {
        x.image(true);
        x.day(1, 3, 0);
        x.plan(0);
        x.image(false);
        x.feed(0x61646420, 0x313b2020, 0x66696768, 0x7420313b, 0x20202020);
        x.text(0, 1);
        x.feed(0x61646420, 0x313b2020, 0x66696768, 0x7420313b, 0x20202020);
        x.text(1, 1);
        x.fault(0);
        x.of(3, 8);
        x.lot(1, 7);
        x.beans(0, 1, 5);
        x.seen(30, 2);
        x.led(0, 0, true, 1);
        x.least(0, 9);
        x.back(0);
        x.parts(0, 1, 0);
        x.fitting(0);
        x.cut(2);
        x.woods(9, 100000);
        x.look(3);
    }
}
