import com.sun.management.ThreadMXBean;
import java.lang.management.ManagementFactory;

/** The room that a run of 512 dear calls takes: some 7.3 million elements are all that there is. */
public final class RoomTest {
    private RoomTest() {
    }

    public static void main(String[] args) {
        ThreadMXBean bean = (ThreadMXBean) ManagementFactory.getThreadMXBean();
        long id = Thread.currentThread().getId();
        for (int style = 0; style < 4; style++) {
            long before = bean.getThreadAllocatedBytes(id);
            spend(style);
            long bytes = bean.getThreadAllocatedBytes(id) - before;
            Due.is("style " + style + " takes " + bytes + " bytes, no more than 2 million", bytes <= 2000000, true);
        }
        Due.close("RoomTest");
    }

    private static void spend(int style) {
        HealLink x = new HealLink();
        int[][] settings = {{2, 2, 4, 2}, {2, 3, 3, 1}, {1, 4, 3, 4}, {2, 4, 7, 4}};
        for (int what = 0; what < 4; what++) {
            x.set(what, settings[style][what]);
        }
        for (int i = 0; i < 100; i++) {
            x.run(20, i, true);
            ask(x, i % 8);
            x.feed(0x616761696E203330L, 0x5B73656E643B5D3BL, 0x2020202020202020L);
            x.script();
            x.struck();
        }
    }

    private static void ask(HealLink x, int i) {
        switch (i) {
            case 0: x.worst(); break;
            case 1: x.enough(); break;
            case 2: x.odds(40); break;
            case 3: x.barren(); break;
            case 4: x.way(2, 0); break;
            case 5: x.steps(); break;
            case 6: x.every(0); break;
            default: x.reached(); break;
        }
    }
}
