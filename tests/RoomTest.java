import com.sun.management.ThreadMXBean;
import java.io.IOException;
import java.lang.management.ManagementFactory;
import java.nio.file.Files;
import java.nio.file.Path;
import java.util.NoSuchElementException;
import java.util.regex.Pattern;

/**
 * The room that one run of calls has. Counted as if each call were the dearest one; a byte counts as
 * an element and 16 bytes as an object, which is more than there can be of either.
 */
public final class RoomTest {
    private static final long ELEMENTS = 7300000;
    private static final long OBJECTS = 600000;
    private static final int CALLS = 512;
    private static final int KINDS = 34;
    private static final int[][] SETTINGS = {{1, 3, 3, 2}, {1, 2, 1, 1}, {2, 2, 4, 2}, {2, 3, 3, 1}, {1, 4, 3, 4},
        {2, 4, 7, 4}, {2, 2, 7, 1}, {1, 2, 7, 2}};
    private static final ThreadMXBean BEAN = (ThreadMXBean) ManagementFactory.getThreadMXBean();

    private static long dearest;
    private static int dearestCall;

    private RoomTest() {
    }

    public static void main(String[] args) throws IOException {
        rowsAreMadeInConstructors();
        // What the machine itself makes when a class is used first is not the calls' own.
        askAll();
        dearest = 0;
        askAll();
        long made = BEAN.getThreadAllocatedBytes(Thread.currentThread().getId());
        HealLink link = new HealLink();
        made = BEAN.getThreadAllocatedBytes(Thread.currentThread().getId()) - made;
        Due.is("of a new link", link.of(9), 3);
        String told = "the constructor makes " + made + " bytes, the dearest call (" + dearestCall + ") " + dearest;
        System.out.println(told);
        Due.is(told + ", which is measured", made > 0 && dearest > 0, true);
        Due.is(told + ", elements", made + CALLS * dearest < ELEMENTS, true);
        Due.is(told + ", objects", (made + CALLS * dearest) / 16 < OBJECTS, true);
        Due.is(told + ", a few small objects a call", dearest <= 2000, true);
        Due.close("RoomTest");
    }

    /** Each "new" is a field's, that of Cells' constructor, an exception, or with()'s small object. */
    private static void rowsAreMadeInConstructors() throws IOException {
        Pattern field = Pattern.compile("( {4}| {8})(private |final |static )+[\\w\\[\\]]+ \\w+ = .*");
        Pattern small = Pattern.compile("\\s*(throw new NoSuchElementException\\(.*|return new Rules\\(.*"
            + "|cells = new int\\[Math.max\\(size, 0\\)\\];)");
        Pattern copies = Pattern.compile(".*(\\.clone\\(|\\bcopyOf|\\bsubstring\\(|\\btoCharArray\\().*");
        for (String line : Files.readAllLines(Path.of("src/main/java/HealLink.java"))) {
            String code = line.replaceAll("//.*|^\\s*/?\\*.*", "");
            if (Pattern.compile("\\bnew\\b").matcher(code).find()) {
                Due.is("made in a constructor: " + line.strip(),
                    field.matcher(code).matches() || small.matcher(code).matches(), true);
            }
            Due.is("no copy: " + line.strip(), copies.matcher(code).matches(), false);
        }
    }

    private static void askAll() {
        for (int[] setting : SETTINGS) {
            for (int kind = 0; kind < KINDS; kind++) {
                HealLink link = new HealLink();
                for (int what = 0; what < 4; what++) {
                    link.set(what, setting[what]);
                }
                measure(link, kind);
                measure(link, kind);
                link.run(30, kind, false);
                measure(link, kind);
                for (int other = 0; other < KINDS; other++) {
                    measure(link, other);
                }
                measure(link, kind);
            }
        }
    }

    private static void measure(HealLink link, int kind) {
        long id = Thread.currentThread().getId();
        long before = BEAN.getThreadAllocatedBytes(id);
        ask(link, kind);
        long made = BEAN.getThreadAllocatedBytes(id) - before;
        if (made > dearest) {
            dearest = made;
            dearestCall = kind;
        }
    }

    private static void ask(HealLink x, int kind) {
        switch (kind) {
            case 0: x.set(0, x.of(8)); break;
            case 1: x.sender(1, 1, 0, true); break;
            case 2: x.last(0); break;
            case 3: x.seen(1, 1, 1); break;
            case 4: x.packets(1, 0, 1); break;
            case 5: x.letters(1, 1); break;
            case 6: x.queue(5, 3); break;
            case 7: x.act(0, 0, 0); break;
            case 8: x.run(200, 42, true); break;
            case 9: x.of(5); break;
            case 10: x.kind(0, 0, 1); break;
            case 11: askNoKind(x); break;
            case 12: x.queue(1, 1); x.queued(0); break;
            case 13: askNotQueued(x); break;
            case 14: x.count(0); break;
            case 15: x.possible(0, 0); break;
            default: askFurther(x, kind); break;
        }
    }

    private static void askFurther(HealLink x, int kind) {
        switch (kind) {
            case 16: x.reached(); break;
            case 17: x.worst(); break;
            case 18: x.soonest(); break;
            case 19: x.way(2, 0); break;
            case 20: x.barren(); break;
            case 21: x.steps(); break;
            case 22: x.odds(40); break;
            case 23: x.enough(); break;
            case 24: x.every(0); break;
            case 25: x.struck(); break;
            case 26: x.row(1, 0); break;
            case 27: x.feed(0x616761696E203330L, 0x5B73656E643B5D3BL, 0x2020202020202020L); break;
            case 28: x.end(24); break;
            case 29: x.script(); break;
            case 30: x.image(); break;
            case 31: x.back(); break;
            case 32: x.feed(-1, 0, 1); x.script(); break;
            default: x.run(200, 7, false); break;
        }
    }

    private static void askNoKind(HealLink x) {
        try {
            Due.is("kind(9, 9, 9)", x.kind(9, 9, 9), -1000);
        } catch (NoSuchElementException e) {
            return;
        }
    }

    private static void askNotQueued(HealLink x) {
        try {
            Due.is("queued(30)", x.queued(30), -1000);
        } catch (NoSuchElementException e) {
            return;
        }
    }
}
