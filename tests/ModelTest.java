import java.nio.charset.StandardCharsets;
import java.util.ArrayList;
import java.util.List;
import java.util.NoSuchElementException;
import java.util.Random;

/** Random runs of calls, each answer compared with that of the Model. */
public final class ModelTest {
    private static final int RUNS = 240;
    private static final int CALLS = 120;

    private final Random random;
    private final HealLink link = new HealLink();
    private final Model model = new Model();
    private final List<String> calls = new ArrayList<>();
    private boolean same = true;

    private ModelTest(long seed) {
        random = new Random(seed);
    }

    public static void main(String[] args) {
        int runs = args.length > 0 ? Integer.parseInt(args[0]) : RUNS;
        long first = args.length > 1 ? Long.parseLong(args[1]) : 1;
        for (int run = 0; run < runs; run++) {
            ModelTest test = new ModelTest(first + run);
            if (!test.isSame(run % 3)) {
                System.out.println("seed " + (first + run) + ": " + String.join("; ", test.calls));
                break;
            }
        }
        Due.close("ModelTest");
    }

    private boolean isSame(int style) {
        for (int i = 0; i < 4; i++) {
            if (style > 0) {
                settle(i, new int[] {1, 2, 1, 1}[i] + random.nextInt(style == 1 ? new int[] {1, 2, 3, 2}[i]
                    : new int[] {2, 3, 7, 4}[i]));
            }
        }
        for (int i = 0; i < CALLS && same; i++) {
            call();
        }
        return same;
    }

    private void due(String call, long got, long want) {
        calls.add(call + "=" + want);
        Due.is(call, got, want);
        same = same && got == want;
    }

    private void settle(int what, int v) {
        due("set(" + what + "," + v + ")", link.set(what, v), model.set(what, v));
    }

    private int odd(int least, int beyond) {
        return random.nextInt(40) == 0 ? random.nextInt() : random.nextInt(30) == 0 ? least - 1
            : random.nextInt(30) == 0 ? beyond : least + random.nextInt(beyond - least);
    }

    private int label() {
        return odd(0, model.of(9));
    }

    private int value() {
        return odd(0, 2);
    }

    private interface Asked {
        int answer();
    }

    private static long answerOf(Asked asked) {
        try {
            return asked.answer();
        } catch (NoSuchElementException e) {
            return -1000;
        }
    }

    private void call() {
        int choice = random.nextInt(100);
        if (choice < 30) {
            doActs();
        } else if (choice < 50) {
            tell();
        } else if (choice < 70) {
            look();
        } else if (choice < 90) {
            search();
        } else {
            keep();
        }
    }

    private void doActs() {
        int choice = random.nextInt(10);
        if (choice < 6) {
            int many = model.possible(-1, 0);
            int i = random.nextInt(many);
            int w = model.possible(i, 0);
            int l = model.possible(i, 1);
            int v = model.possible(i, 2);
            due("act(" + w + "," + l + "," + v + ")", link.act(w, l, v), model.act(w, l, v));
        } else if (choice < 8) {
            int w = odd(0, 5);
            int l = label();
            int v = value();
            due("act(" + w + "," + l + "," + v + ")", link.act(w, l, v), model.act(w, l, v));
        } else {
            int n = odd(1, 201);
            int seed = random.nextInt();
            boolean lose = random.nextBoolean();
            due("run(" + n + "," + seed + "," + lose + ")", link.run(n, seed, lose), model.run(n, seed, lose));
        }
    }

    private void tell() {
        int l = label();
        int v = value();
        int n = odd(0, 4);
        switch (random.nextInt(8)) {
            case 0:
                int a = odd(0, model.of(10));
                boolean t = random.nextBoolean();
                due("sender(" + l + "," + v + "," + a + "," + t + ")", link.sender(l, v, a, t) ? 1 : 0,
                    model.sender(l, v, a, t) ? 1 : 0);
                break;
            case 1:
                due("last(" + l + ")", link.last(l), model.last(l));
                break;
            case 2:
                due("seen(" + l + "," + v + "," + n + ")", link.seen(l, v, n), model.seen(l, v, n));
                break;
            case 3:
            case 4:
                due("packets(" + l + "," + v + "," + n + ")", link.packets(l, v, n), model.packets(l, v, n));
                break;
            case 5:
                due("letters(" + l + "," + n + ")", link.letters(l, n), model.letters(l, n));
                break;
            case 6:
                int bits = random.nextInt();
                int m = odd(1, 21);
                due("queue(" + bits + "," + m + ")", link.queue(bits, m), model.queue(bits, m));
                break;
            default:
                if (random.nextInt(6) == 0) {
                    int what = odd(0, 4);
                    settle(what, odd(1, 8));
                }
                break;
        }
    }

    private void look() {
        int l = label();
        int v = value();
        switch (random.nextInt(7)) {
            case 0:
                int o = odd(0, 13);
                due("of(" + o + ")", link.of(o), model.of(o));
                break;
            case 1:
                int w = odd(0, 3);
                due("kind(" + l + "," + v + "," + w + ")", answerOf(() -> link.kind(l, v, w)),
                    answerOf(() -> model.kind(l, v, w)));
                break;
            case 2:
                int i = odd(0, 12);
                due("queued(" + i + ")", answerOf(() -> link.queued(i)), answerOf(() -> model.queued(i)));
                break;
            case 3:
                int c = odd(0, 8);
                due("count(" + c + ")", link.count(c), model.count(c));
                break;
            case 4:
                int p = odd(0, 9);
                int pw = odd(0, 3);
                due("possible(" + p + "," + pw + ")", link.possible(p, pw), model.possible(p, pw));
                break;
            case 5:
                due("struck()", link.struck(), model.struck());
                break;
            default:
                int rw = odd(0, 2);
                int ri = odd(0, 40);
                due("row(" + rw + "," + ri + ")", link.row(rw, ri), model.row(rw, ri));
                break;
        }
    }

    private void search() {
        switch (random.nextInt(11)) {
            case 0:
                due("reached()", link.reached(), model.reached());
                break;
            case 1:
                due("worst()", link.worst(), model.worst());
                break;
            case 2:
                due("soonest()", link.soonest(), model.soonest());
                break;
            case 3:
            case 4:
                int i = odd(0, Math.max(1, model.soonest() + 1));
                int what = odd(0, 3);
                due("way(" + i + "," + what + ")", link.way(i, what), model.way(i, what));
                break;
            case 5:
                due("barren()", link.barren(), model.barren());
                break;
            case 6:
                due("steps()", link.steps(), model.steps());
                break;
            case 7:
            case 8:
                int k = odd(1, 41);
                due("odds(" + k + ")", link.odds(k), model.odds(k));
                break;
            case 9:
                due("enough()", link.enough(), model.enough());
                break;
            default:
                int w = odd(0, 10);
                due("every(" + w + ")", link.every(w), model.every(w));
                break;
        }
    }

    private void keep() {
        int choice = random.nextInt(8);
        if (choice == 0) {
            due("image()", link.image() ? 1 : 0, model.image() ? 1 : 0);
        } else if (choice == 1) {
            due("back()", link.back() ? 1 : 0, model.back() ? 1 : 0);
        } else if (choice == 2) {
            int n = odd(0, 264);
            due("end(" + n + ")", link.end(n), model.end(n));
        } else if (choice == 3) {
            due("script()", link.script(), model.script());
        } else if (choice == 4) {
            feed(random.nextLong(), random.nextLong(), random.nextLong());
        } else {
            due("end(0)", link.end(0), model.end(0));
            feedText(random.nextInt(4) == 0 ? noise() : steps(0));
            due("script()", link.script(), model.script());
        }
    }

    private void feed(long a, long b, long c) {
        due("feed(" + a + "," + b + "," + c + ")", link.feed(a, b, c), model.feed(a, b, c));
    }

    private void feedText(String text) {
        calls.add("\"" + text + "\"");
        byte[] bytes = text.getBytes(StandardCharsets.ISO_8859_1);
        for (int at = 0; at < bytes.length; at += 24) {
            long[] words = new long[3];
            for (int i = 0; i < 24; i++) {
                int b = at + i < bytes.length ? bytes[at + i] & 255 : 0;
                words[i / 8] = words[i / 8] << 8 | b;
            }
            feed(words[0], words[1], words[2]);
        }
        int n = bytes.length;
        due("end(" + n + ")", link.end(n), model.end(n));
    }

    private String blank() {
        return random.nextInt(4) == 0 ? " " : "";
    }

    private String number(int least, int beyond) {
        int n = random.nextInt(30) == 0 ? random.nextInt(120) : least + random.nextInt(beyond - least);
        return (random.nextInt(12) == 0 ? "0" : "") + n;
    }

    /** Steps that are mostly right, and mostly possible. */
    private String steps(int depth) {
        StringBuilder text = new StringBuilder();
        int many = random.nextInt(depth == 0 ? 12 : 4);
        for (int i = 0; i < many; i++) {
            text.append(step(depth)).append(blank());
            text.append(random.nextInt(60) == 0 ? "" : ";").append(blank());
        }
        return text.toString();
    }

    private String step(int depth) {
        int n = model.of(9);
        int sender = model.of(0);
        String l = blank() + (random.nextInt(3) == 0 ? number(0, n) : "" + sender);
        String v = " " + (random.nextInt(3) == 0 ? number(0, 2) : "" + model.of(1));
        switch (random.nextInt(9)) {
            case 0:
            case 1:
                return "send";
            case 2:
                return "arrive" + l + v;
            case 3:
                return "come" + l;
            case 4:
                return "lose " + l + v;
            case 5:
                return "drop" + l;
            case 6:
                return "clear" + blank() + number(1, 10);
            case 7:
                return "send;arrive " + sender + v + ";come " + sender;
            default:
                return depth > 5 ? "send" : "again" + blank() + number(0, 31) + blank() + "[" + steps(depth + 1) + "]";
        }
    }

    private String noise() {
        String[] bits = {"send", "arrive", "come", "lose", "drop", "again", "clear", " ", ";", ";", "0", "1", "2",
            "[", "]", "12", "123", "x", "S", "\t", "\u00e9", "\u0000", "30", "31", "9", "again 2[", "];", "send;"};
        StringBuilder text = new StringBuilder();
        int many = random.nextInt(12);
        for (int i = 0; i < many; i++) {
            text.append(bits[random.nextInt(bits.length)]);
        }
        return text.toString();
    }
}
