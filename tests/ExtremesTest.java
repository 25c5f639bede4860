import java.util.NoSuchElementException;

/** Every call with every mix of near and far numbers: nothing but what the document names is thrown. */
public final class ExtremesTest {
    private static final int[] NUMBERS = {Integer.MIN_VALUE, Integer.MIN_VALUE + 1, -1000000, -3, -2, -1, 0, 1, 2, 3,
        4, 5, 6, 7, 8, 9, 10, 13, 19, 20, 21, 29, 30, 31, 39, 40, 41, 100, 200, 201, 240, 263, 264, 265, 6000, 16384,
        0x40000000, Integer.MAX_VALUE - 1, Integer.MAX_VALUE};

    private HealLink link;
    private Model model;

    private ExtremesTest() {
    }

    public static void main(String[] args) {
        int[][] settings = {{1, 3, 3, 2}, {2, 2, 1, 1}, {1, 4, 7, 4}, {2, 4, 2, 3}};
        for (int[] setting : settings) {
            new ExtremesTest().ask(setting);
        }
        Due.close("ExtremesTest");
    }

    private void anew(int[] setting) {
        link = new HealLink();
        model = new Model();
        for (int what = 0; what < 4; what++) {
            link.set(what, setting[what]);
            model.set(what, setting[what]);
        }
    }

    private void ask(int[] setting) {
        anew(setting);
        for (int a : NUMBERS) {
            askOne(a);
            for (int b : NUMBERS) {
                askTwo(a, b);
                for (int c : new int[] {Integer.MIN_VALUE, -1, 0, 1, 2, 3, 4, Integer.MAX_VALUE}) {
                    askThree(a, b, c);
                }
            }
        }
        for (int a : NUMBERS) {
            anew(setting);
            askSet(a);
        }
        askTape(setting);
    }

    private void askOne(int a) {
        Due.is("last(" + a + ")", link.last(a), model.last(a));
        Due.is("of(" + a + ")", link.of(a), model.of(a));
        Due.is("count(" + a + ")", link.count(a), model.count(a));
        Due.is("queued(" + a + ")", queued(a), queuedDue(a));
        Due.is("end(" + a + ")", link.end(a), model.end(a));
        Due.is("every(" + a + ")", link.every(a), model.every(a));
        Due.is("odds(" + a + ")", link.odds(a), model.odds(a));
    }

    private void askTwo(int a, int b) {
        String two = "(" + a + "," + b + ")";
        Due.is("letters" + two, link.letters(a, b), model.letters(a, b));
        Due.is("queue" + two, link.queue(a, b), model.queue(a, b));
        Due.is("possible" + two, link.possible(a, b), model.possible(a, b));
        Due.is("row" + two, link.row(a, b), model.row(a, b));
        Due.is("run" + two, link.run(a, b, false), model.run(a, b, false));
        if (a < 0 || b < 0 || b > 2) {
            Due.is("way" + two, link.way(a, b), link.reached() == -3 ? -3 : -2);
        }
    }

    private void askThree(int a, int b, int c) {
        String three = "(" + a + "," + b + "," + c + ")";
        Due.is("sender" + three, link.sender(a, c, b, b > 0), model.sender(a, c, b, b > 0));
        Due.is("seen" + three, link.seen(a, c, b), model.seen(a, c, b));
        Due.is("packets" + three, link.packets(a, c, b), model.packets(a, c, b));
        Due.is("act" + three, link.act(c, a, b), model.act(c, a, b));
        Due.is("kind" + three, kind(a, b, c), kindDue(a, b, c));
    }

    private void askSet(int a) {
        for (int b : NUMBERS) {
            Due.is("set(" + a + "," + b + ")", link.set(a, b), model.set(a, b));
            Due.is("set(" + b + "," + a + ")", link.set(b, a), model.set(b, a));
        }
    }

    private void askTape(int[] setting) {
        anew(setting);
        long[] words = {Long.MIN_VALUE, -1, 0, 1, Long.MAX_VALUE, 0x3B3B3B3B3B3B3B3BL, 0x2020202020202020L,
            0x5B5B5B5B5B5B5B5BL, 0x3939393939393939L, 0x6161616161616161L};
        for (long a : words) {
            for (long b : words) {
                Due.is("feed", link.feed(a, b, a), model.feed(a, b, a));
                if ((a ^ b) % 3 == 0) {
                    Due.is("script", link.script(), model.script());
                }
            }
        }
    }

    private int queued(int i) {
        try {
            return link.queued(i);
        } catch (NoSuchElementException e) {
            return -1000;
        }
    }

    private int queuedDue(int i) {
        try {
            return model.queued(i);
        } catch (NoSuchElementException e) {
            return -1000;
        }
    }

    private int kind(int label, int value, int what) {
        try {
            return link.kind(label, value, what);
        } catch (NoSuchElementException e) {
            return -1000;
        }
    }

    private int kindDue(int label, int value, int what) {
        try {
            return model.kind(label, value, what);
        } catch (NoSuchElementException e) {
            return -1000;
        }
    }
}
