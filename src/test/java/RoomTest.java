import com.sun.management.ThreadMXBean;
import java.lang.management.ManagementFactory;

/** An object is small, and its calls make next to nothing: rows are made once and used again. */
public final class RoomTest {
    private static final Check CHECK = new Check("room");
    private static final ThreadMXBean BEAN = (ThreadMXBean) ManagementFactory.getThreadMXBean();

    public static void main(String[] args) {
        long before = bytes();
        for (int i = 0; i < 10; i++) play();
        long each = (bytes() - before) / 10;
        System.out.println("room: " + each + " bytes for an object and 512 calls");
        // Some 7.3 million elements are the limit of a run; this is a hundredth of it.
        CHECK.yes("an object and 512 dear calls stay below 300000 bytes", each < 300000);
        CHECK.end();
    }

    private static long bytes() {
        return BEAN.getThreadAllocatedBytes(Thread.currentThread().getId());
    }

    private static void play() {
        FieldOvens x = new FieldOvens();
        Check.land(x, "50w,20w,20w,20w,20w,20w,20w,20w;b7d1k9");
        for (int i = 0; i < 4; i++) Check.march(x, "13:f3c5s2c5b2f");
        for (int i = 0; i < 8; i++) x.plan(3, 2, 0);
        for (int i = 0; i < 30; i++) {
            int answer = i % 2 == 0 ? x.which(i % 4) : x.burnt(i % 8, i % 4, 0);
            CHECK.yes("dear call", answer >= 0);
        }
        for (int i = 0; i < 200; i++) {
            x.flour(i % 8, i);
            CHECK.yes("call", x.hungry(i % 8, i % 4, i % 4) >= 0);
        }
        for (int i = 0; i < 40; i++) {
            Check.write(x, "3:f");
            CHECK.due("full", x.march(), FieldOvens.FULL);
            x.blank();
        }
    }
}
