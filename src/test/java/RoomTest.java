import com.sun.management.ThreadMXBean;
import java.lang.management.ManagementFactory;

/** All calls of a run live in one room: an object is made of a small number of bytes, and its calls need none. */
public final class RoomTest {
    private static final ThreadMXBean MEMORY = (ThreadMXBean) ManagementFactory.getThreadMXBean();
    private static final String TEXT = "w1;b50;w1;b51;w1;b52;w1;b53;w1;b54;w1;b55;w1;b56;w1;b57;w1";

    public static void main(String[] args) {
        bytesOfRun();
        long before = bytes();
        MirageSurvey survey = new MirageSurvey();
        Check.is("an object needs less than 20,000 bytes", bytes() - before < 20_000 && survey.account(0) == 0, true);
        Check.is("512 calls need less than 2,000 bytes", bytesOfRun() < 2_000, true);
        Check.end();
    }

    private static long bytes() {
        return MEMORY.getThreadAllocatedBytes(Thread.currentThread().getId());
    }

    private static long bytesOfRun() {
        MirageSurvey x = new MirageSurvey();
        x.camel(50);
        x.stake(50);
        x.post(50, 9);
        x.sheet();
        long before = bytes();
        for (int round = 0; round < 6; round++) {
            x.save();
            for (int index = 0; index < TEXT.length(); index++) {
                x.append(TEXT.charAt(index));
            }
            x.commands();
            x.hours(10);
            x.heat(round);
            x.sight(0, 0, 0);
            x.line(0);
            x.undo();
            x.undo();
            x.restore();
            for (int what = 0; what < 15; what++) {
                x.account(what);
            }
        }
        return bytes() - before;
    }
}
