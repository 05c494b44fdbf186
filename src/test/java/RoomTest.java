import java.lang.management.ManagementFactory;
import com.sun.management.ThreadMXBean;

/** All calls of a run live in one room: no call may make anything, and an object is small. */
public final class RoomTest {
    private static final int CALLS = 512;

    public static void main(String[] args) {
        ThreadMXBean bean = (ThreadMXBean) ManagementFactory.getThreadMXBean();
        long me = Thread.currentThread().getId();
        dearest(new DearerByUse());
        long ahead = bean.getThreadAllocatedBytes(me);
        DearerByUse x = new DearerByUse();
        long made = bean.getThreadAllocatedBytes(me) - ahead;
        Checks.due("an object has at most some 4000 ints: " + made, made < 16000 ? 1 : 0, 1);
        ahead = bean.getThreadAllocatedBytes(me);
        dearest(x);
        long calls = bean.getThreadAllocatedBytes(me) - ahead;
        // Asking for the count makes a little itself.
        Checks.due("calls make nothing: " + calls, calls < 4096 ? 1 : 0, 1);
        Checks.end("RoomTest");
    }

    /** The dearest state there can be, and then every call in turn; it must end soon, too. */
    private static void dearest(DearerByUse x) {
        for (int i = 0; i < 10; i++) x.word(0, 121212);
        for (int i = 0; i < 5; i++) x.writer(0, 23, 9999);
        for (int i = 0; i < 5; i++) x.law(5 - i, 9);
        x.rule(1);
        String text = "adds 1+1+1+1+1+1+1+1+1+1+1+1+1+1+1+1+1+1+1+1+1+1+1+1+1+1+1+1+1+1;worth 999;may 1;";
        for (int i = 0; i < text.length(); i++) x.feed(text.charAt(i));
        x.force(x.text());
        long answers = 0;
        for (int call = 0; call < CALLS; call++) answers += one(x, call);
        Checks.due("answers were given", answers == 0 ? 1 : 0, 0);
    }

    private static long one(DearerByUse x, int call) {
        switch (call % 22) {
            case 0: return x.rest();
            case 1: return x.turns(0);
            case 2: return x.worst(20, 0);
            case 3: return x.best(0);
            case 4: return x.chance(call, 20, 0);
            case 5: return x.when(4, 0);
            case 6: return x.choose(call % 5);
            case 7: return x.whose(0);
            case 8: return x.sheet(0, call % 3, 5);
            case 9: return x.cell(0, 1, call);
            case 10: return x.copy(0, 0, 0, 1, 3);
            case 11: return x.writers(0, 2, 0, 1);
            case 12: return x.image();
            case 13: return x.back();
            case 14: return x.fits(4, 100);
            case 15: return x.judge(0);
            case 16: return x.drawn(call);
            case 17: return x.law(0, 0);
            case 18: return x.feed('a');
            case 19: return x.text();
            case 20: return x.cheapest(0, 3, 1);
            default: return x.write(call % 10, 3) + x.pass(1);
        }
    }
}
