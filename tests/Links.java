import java.nio.charset.StandardCharsets;
import java.util.NoSuchElementException;
import java.util.function.IntSupplier;

/** What the tests by hand share: links as told, and calls whose exception counts as an answer. */
abstract class Links {
    static final int NONE = HealLink.NONE;
    static final int THROWS = -1000;

    static HealLink link(int capacity, int labels, int acks, int copies) {
        HealLink x = new HealLink();
        x.set(0, capacity);
        x.set(1, labels);
        x.set(2, acks);
        x.set(3, copies);
        return x;
    }

    static int kindOf(HealLink x, int label, int value, int what) {
        try {
            return x.kind(label, value, what);
        } catch (NoSuchElementException e) {
            return THROWS;
        }
    }

    static int queuedOf(HealLink x, int i) {
        try {
            return x.queued(i);
        } catch (NoSuchElementException e) {
            return THROWS;
        }
    }

    static void feed(HealLink x, String text) {
        byte[] bytes = text.getBytes(StandardCharsets.ISO_8859_1);
        int before = x.of(12);
        for (int at = 0; at < bytes.length; at += 24) {
            long[] words = new long[3];
            for (int i = 0; i < 24; i++) {
                words[i / 8] = words[i / 8] << 8 | (at + i < bytes.length ? bytes[at + i] & 255 : 0);
            }
            x.feed(words[0], words[1], words[2]);
        }
        x.end(before + bytes.length);
    }

    static int script(HealLink x, String text) {
        feed(x, text);
        return x.script();
    }

    static void state(String when, HealLink x, int... want) {
        for (int what = 0; what < want.length; what++) {
            Due.is(when + ": of(" + what + ")", x.of(what), want[what]);
        }
    }

    /** What of() tells of 1. in a row, then SEEN, PACKETS and LETTERS of each LABEL and VALUE, then QUEUE. */
    static String told(HealLink x) {
        StringBuilder all = new StringBuilder();
        for (int what = 0; what < 12; what++) {
            all.append(x.of(what)).append(' ');
        }
        for (int what = 0; what < 3; what++) {
            all.append("| ");
            for (int kind = 0; kind < 2 * x.of(9); kind++) {
                all.append(kindOf(x, kind / 2, kind % 2, what)).append(' ');
            }
        }
        all.append("| ");
        for (int i = 0; i < x.of(7); i++) {
            all.append(queuedOf(x, i)).append(' ');
        }
        return all.toString();
    }

    /** What is counted, and the rows. */
    static String counted(HealLink x) {
        StringBuilder all = new StringBuilder();
        for (int what = 0; what < 8; what++) {
            all.append(x.count(what)).append(' ');
        }
        for (int what = 0; what < 2; what++) {
            all.append("| ");
            for (int i = 0; i < x.row(what, NONE); i++) {
                all.append(x.row(what, i)).append(' ');
            }
        }
        return all.toString();
    }

    static String everything(HealLink x) {
        return told(x) + "| " + counted(x) + "| " + x.of(12);
    }

    /** A call that must be answered by NONE, and change nothing. */
    static void refused(String call, HealLink x, IntSupplier asked) {
        String before = everything(x);
        Due.is(call, asked.getAsInt(), NONE);
        Due.is("all behind the refused " + call, everything(x), before);
    }
}
