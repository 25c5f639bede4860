/**
 * Each sentence about what a link is told by hand (Terms 1., promises 1 to 8, 11 to 13, 30 and 31):
 * the last value that the document allows, and the first one beyond it.
 */
public final class StateBoundaryTest extends Links {
    private static final int[] LEAST = {1, 2, 1, 1};
    private static final int[] MOST = {2, 4, 7, 4};
    private static final int[] FIRST = {1, 3, 3, 2};
    private static final int MIN = Integer.MIN_VALUE;
    private static final int MAX = Integer.MAX_VALUE;

    private StateBoundaryTest() {
    }

    public static void main(String[] args) {
        newObjects();
        settings();
        setAnew();
        sender();
        receiver();
        channels();
        queues();
        looks();
        looksAtKinds();
        looksAtQueue();
        images();
        Due.close("StateBoundaryTest");
    }

    /** A link of which nothing is as at first. */
    private static HealLink busy() {
        HealLink x = link(2, 3, 3, 3);
        x.queue(0b1011, 4);
        x.run(150, 9, true);
        x.sender(1, 1, 2, true);
        x.last(0);
        x.seen(1, 1, 2);
        x.seen(2, 0, 1);
        x.packets(0, 0, 0);
        x.packets(0, 1, 0);
        x.packets(1, 0, 0);
        x.packets(1, 1, 0);
        x.packets(2, 0, 0);
        x.packets(2, 1, 0);
        x.packets(2, 1, 2);
        x.letters(0, 0);
        x.letters(1, 0);
        x.letters(2, 0);
        x.letters(0, 1);
        x.letters(1, 1);
        x.queue(0b01, 2);
        feed(x, "send;");
        return x;
    }

    // Promise 1
    private static void newObjects() {
        Due.sentence("CAPACITY 1, LABELS 3, ACKS 3, COPIES 2 at first", () -> {
            for (int what = 0; what < 4; what++) {
                Due.is("of(" + (8 + what) + ")", new HealLink().of(8 + what), FIRST[what]);
            }
        });
        Due.sentence("SENDER: all 0 at first; LAST: n - 1 at first", () ->
            state("new", new HealLink(), 0, 0, 0, 0, 2));
        Due.sentence("SEEN: 0 at first; PACKETS, LETTERS: none at first", () -> {
            HealLink x = new HealLink();
            for (int kind = 0; kind < 6; kind++) {
                for (int what = 0; what < 3; what++) {
                    Due.is("kind(.., " + what + ")", kindOf(x, kind / 2, kind % 2, what), 0);
                }
            }
            Due.is("of(5)", x.of(5), 0);
            Due.is("of(6)", x.of(6), 0);
            Due.is("possible(NONE, 0): SEND alone", x.possible(NONE, 0), 1);
        });
        Due.sentence("QUEUE: none at first", () -> {
            Due.is("of(7)", new HealLink().of(7), 0);
            Due.is("queued(0)", queuedOf(new HealLink(), 0), THROWS);
        });
        Due.sentence("since the constructor: nothing is counted, rows are empty, nothing is on the TAPE", () -> {
            Due.is("all", counted(new HealLink()), "0 0 0 0 0 0 0 0 | | ");
            Due.is("of(12)", new HealLink().of(12), 0);
            Due.is("row(0, 0)", new HealLink().row(0, 0), NONE);
            Due.is("row(1, 0)", new HealLink().row(1, 0), NONE);
        });
        Due.sentence("back(): false: nothing is kept at first", () ->
            Due.is("back()", new HealLink().back(), false));
    }

    // Promise 2
    private static void settings() {
        String[] words = {"CAPACITY 1 or 2", "LABELS n, 2 to 4", "ACKS WANTED 1 to 7", "COPIES WANTED 1 to 4"};
        for (int i = 0; i < 4; i++) {
            int what = i;
            Due.sentence(words[what], () -> limits(what));
        }
        Due.sentence("set(): What 0 to 3; NONE: others", () -> {
            for (int what : new int[] {-1, 4, 5, MIN, MAX}) {
                for (int v = 0; v < 5; v++) {
                    HealLink x = busy();
                    int told = v;
                    refused("set(" + what + ", " + v + ")", x, () -> x.set(what, told));
                }
            }
        });
    }

    private static void setAnew() {
        Due.sentence("set(): what it was", () -> {
            HealLink x = new HealLink();
            Due.is("set(2, 7)", x.set(2, 7), 3);
            Due.is("set(2, 7)", x.set(2, 7), 7);
            Due.is("set(2, 8)", x.set(2, 8), NONE);
            Due.is("set(2, 1)", x.set(2, 1), 7);
            Due.is("set(2, 0)", x.set(2, 0), NONE);
            Due.is("set(2, 1)", x.set(2, 1), 1);
        });
        Due.sentence("set(): all of 1. but these is as at first, nothing is counted, rows are empty", () -> {
            for (int what = 0; what < 4; what++) {
                HealLink x = busy();
                x.set(what, x.of(8 + what));
                Due.is("told", told(x), told(link(2, 3, 3, 3)));
                Due.is("counted", counted(x), counted(new HealLink()));
            }
        });
        Due.sentence("set(): QUEUE is as at first: nothing of the one before comes back", () -> {
            for (int what = 0; what < 4; what++) {
                HealLink x = link(1, 2, 1, 1);
                x.queue(-1, 20);
                x.queue(-1, 10);
                x.set(what, x.of(8 + what));
                Due.is("queue(0, 20)", x.queue(0, 20), 20);
                Due.is("queue(0, 10)", x.queue(0, 10), 30);
                for (int i = 0; i < 30; i++) {
                    Due.is("queued(" + i + ")", queuedOf(x, i), 0);
                }
            }
        });
        Due.sentence("set(): but these", StateBoundaryTest::settingsStay);
        Due.sentence("set(): LAST n - 1", () -> {
            for (int n = 2; n <= 4; n++) {
                HealLink x = new HealLink();
                x.set(1, n);
                Due.is("of(4) for n " + n, x.of(4), n - 1);
                x.last(0);
                x.set(3, 1);
                Due.is("of(4) for n " + n, x.of(4), n - 1);
            }
        });
        Due.sentence("set(): there is no image; a refused set() leaves it", () -> {
            for (int what = 0; what < 4; what++) {
                HealLink x = busy();
                x.image();
                x.set(what, LEAST[what] - 1);
                x.set(what, MOST[what] + 1);
                Due.is("back() behind a refused set()", x.back(), true);
                x.set(what, x.of(8 + what));
                Due.is("back() behind set()", x.back(), false);
            }
        });
        Due.sentence("set(): the TAPE, which 1. doesn't tell, stays", () -> {
            HealLink x = busy();
            x.set(0, 1);
            Due.is("of(12)", x.of(12), 5);
            Due.is("script()", x.script(), 1);
        });
    }

    private static void limits(int what) {
        HealLink x = new HealLink();
        int was = FIRST[what];
        for (int v = LEAST[what]; v <= MOST[what]; v++) {
            Due.is("set(" + what + ", " + v + ")", x.set(what, v), was);
            Due.is("of(" + (8 + what) + ")", x.of(8 + what), v);
            was = v;
        }
        for (int v : new int[] {LEAST[what] - 1, MOST[what] + 1, -LEAST[what], MIN, MAX}) {
            HealLink y = busy();
            refused("set(" + what + ", " + v + ")", y, () -> y.set(what, v));
        }
    }

    private static void settingsStay() {
        for (int what = 0; what < 4; what++) {
            for (int v : new int[] {LEAST[what], MOST[what]}) {
                HealLink x = link(2, 4, 7, 4);
                x.set(what, v);
                for (int other = 0; other < 4; other++) {
                    Due.is("of(" + (8 + other) + ") behind set(" + what + ", " + v + ")", x.of(8 + other),
                        other == what ? v : MOST[other]);
                }
            }
        }
    }

    // Promise 3
    private static void sender() {
        Due.sentence("sender(): LABELS 0 to n - 1", () -> {
            for (int n = 2; n <= 4; n++) {
                HealLink x = link(1, n, 2, 1);
                for (int label = 0; label < n; label++) {
                    Due.is("sender(" + label + ", ..)", x.sender(label, 1, 1, true), true);
                    state("sender", x, label, 1, 1, 1);
                }
                for (int label : new int[] {-1, n, MIN, MAX}) {
                    noSender(x, label, 0, 0);
                }
            }
        });
        Due.sentence("sender(): VALUES 0 and 1", () -> {
            HealLink x = new HealLink();
            Due.is("sender(0, 1, ..)", x.sender(0, 1, 0, false), true);
            Due.is("of(1)", x.of(1), 1);
            Due.is("sender(0, 0, ..)", x.sender(0, 0, 0, false), true);
            Due.is("of(1)", x.of(1), 0);
            for (int value : new int[] {-1, 2, MIN, MAX}) {
                noSender(x, 0, value, 0);
            }
        });
        Due.sentence("ACKS got (0 to one less than WANTED)", () -> {
            for (int wanted = 1; wanted <= 7; wanted++) {
                HealLink x = link(1, 2, wanted, 1);
                for (int acks = 0; acks < wanted; acks++) {
                    Due.is("sender(.., " + acks + ", ..)", x.sender(1, 0, acks, false), true);
                    Due.is("of(2)", x.of(2), acks);
                }
                for (int acks : new int[] {-1, wanted, wanted + 1, MIN, MAX}) {
                    noSender(x, 1, 0, acks);
                }
            }
        });
        Due.sentence("sender(): The SENDER is so, and nothing else", () -> {
            HealLink x = busy();
            String rest = told(x).substring("1 1 2 1 ".length());
            String counted = counted(x);
            x.sender(2, 0, 0, false);
            Due.is("told", told(x), "2 0 0 0 " + rest);
            x.sender(0, 0, 0, true);
            Due.is("told", told(x), "0 0 0 1 " + rest);
            Due.is("what it sent is not SKIPPED: counted", counted(x), counted);
        });
    }

    // Promises 4 and 5
    private static void receiver() {
        Due.sentence("last(): LABELS 0 to n - 1; what it was; NONE: others", () -> {
            for (int n = 2; n <= 4; n++) {
                HealLink x = link(1, n, 1, 2);
                int was = n - 1;
                for (int label = 0; label < n; label++) {
                    Due.is("last(" + label + ")", x.last(label), was);
                    Due.is("of(4)", x.of(4), label);
                    was = label;
                }
                for (int label : new int[] {-1, n, MIN, MAX}) {
                    refused("last(" + label + ")", x, () -> x.last(label));
                }
            }
        });
        Due.sentence("last(): LAST, and nothing else", () -> {
            HealLink x = busy();
            String before = everything(x);
            x.last(2);
            x.last(0);
            Due.is("all", everything(x), before);
        });
        Due.sentence("SEEN of each LABEL and VALUE (0 to one less than COPIES WANTED)", StateBoundaryTest::seenLimits);
        Due.sentence("SEEN of each LABEL and VALUE", StateBoundaryTest::seenOfEach);
    }

    private static void noSender(HealLink x, int label, int value, int acks) {
        String call = "sender(" + label + ", " + value + ", " + acks + ", ..)";
        for (boolean taken : new boolean[] {false, true}) {
            refused(call, x, () -> x.sender(label, value, acks, taken) ? 1 : NONE);
        }
    }

    private static void seenLimits() {
        for (int copies = 1; copies <= 4; copies++) {
            HealLink x = link(1, 3, 3, copies);
            int was = 0;
            for (int n = 0; n < copies; n++) {
                Due.is("seen(1, 1, " + n + ")", x.seen(1, 1, n), was);
                Due.is("kind(1, 1, 0)", kindOf(x, 1, 1, 0), n);
                was = n;
            }
            for (int n : new int[] {-1, copies, copies + 1, MIN, MAX}) {
                refused("seen(1, 1, " + n + ")", x, () -> x.seen(1, 1, n));
            }
        }
        for (int n = 2; n <= 4; n++) {
            HealLink x = link(1, n, 3, 2);
            Due.is("seen(n - 1, 1, 1), of LAST, too", x.seen(n - 1, 1, 1), 0);
            for (int label : new int[] {-1, n, MIN, MAX}) {
                refused("seen(" + label + ", 0, 0)", x, () -> x.seen(label, 0, 0));
            }
            for (int value : new int[] {-1, 2, MIN, MAX}) {
                refused("seen(0, " + value + ", 0)", x, () -> x.seen(0, value, 0));
            }
        }
    }

    /** All at their most, and one after the other told anew: none is another's. */
    private static void seenOfEach() {
        HealLink x = link(2, 4, 7, 4);
        x.sender(3, 1, 6, true);
        x.packets(0, 0, 2);
        x.letters(0, 2);
        for (int kind = 0; kind < 8; kind++) {
            Due.is("seen(.., 3)", x.seen(kind / 2, kind % 2, 3), 0);
        }
        state("told", x, 3, 1, 6, 1, 3, 2, 2);
        for (int kind = 0; kind < 8; kind++) {
            Due.is("seen(.., 0)", x.seen(kind / 2, kind % 2, 0), 3);
            for (int other = 0; other < 8; other++) {
                Due.is("kind(.., 0)", kindOf(x, other / 2, other % 2, 0), other <= kind ? 0 : 3);
            }
        }
        state("told", x, 3, 1, 6, 1, 3, 2, 2);
    }

    // Promises 6 and 7
    private static void channels() {
        Due.sentence("packets(): CAPACITY at most; NONE: more than CAPACITY in all", () -> {
            for (int capacity = 1; capacity <= 2; capacity++) {
                packetsInAll(capacity);
            }
        });
        Due.sentence("packets(): of that LABEL and VALUE; NONE: others", () -> {
            for (int n = 2; n <= 4; n++) {
                HealLink x = link(2, n, 3, 2);
                for (int kind = 0; kind < 2 * n; kind++) {
                    Due.is("packets(.., 2)", x.packets(kind / 2, kind % 2, 2), 0);
                    Due.is("kind(.., 1)", kindOf(x, kind / 2, kind % 2, 1), 2);
                    Due.is("packets(.., 0)", x.packets(kind / 2, kind % 2, 0), 2);
                }
                for (int label : new int[] {-1, n, MIN, MAX}) {
                    refused("packets(" + label + ", 0, 0)", x, () -> x.packets(label, 0, 0));
                }
                for (int value : new int[] {-1, 2, MIN, MAX}) {
                    refused("packets(0, " + value + ", 0)", x, () -> x.packets(0, value, 0));
                }
            }
        });
        Due.sentence("letters(): LETTERS likewise: CAPACITY at most", () -> {
            for (int capacity = 1; capacity <= 2; capacity++) {
                lettersInAll(capacity);
            }
        });
        Due.sentence("letters(): LETTERS likewise: of that LABEL; NONE: others", () -> {
            for (int n = 2; n <= 4; n++) {
                HealLink x = link(2, n, 3, 2);
                for (int label = 0; label < n; label++) {
                    Due.is("letters(.., 2)", x.letters(label, 2), 0);
                    Due.is("kind(.., 2)", kindOf(x, label, 0, 2), 2);
                    Due.is("letters(.., 0)", x.letters(label, 0), 2);
                }
                for (int label : new int[] {-1, n, MIN, MAX}) {
                    refused("letters(" + label + ", 0)", x, () -> x.letters(label, 0));
                }
            }
        });
        Due.sentence("CAPACITY each: a full FORWARD leaves BACK as it is", () -> {
            HealLink x = link(2, 4, 3, 2);
            x.packets(3, 1, 2);
            Due.is("letters(3, 2)", x.letters(3, 2), 0);
            Due.is("packets(3, 1, 2)", x.packets(3, 1, 2), 2);
            Due.is("nothing is lost: counted", counted(x), counted(new HealLink()));
        });
    }

    private static void packetsInAll(int capacity) {
        HealLink x = link(capacity, 3, 3, 2);
        Due.is("packets(2, 1, 0)", x.packets(2, 1, 0), 0);
        Due.is("packets(2, 1, CAPACITY)", x.packets(2, 1, capacity), 0);
        Due.is("the same again", x.packets(2, 1, capacity), capacity);
        Due.is("of(5)", x.of(5), capacity);
        refused("packets(0, 0, 1) into a full one", x, () -> x.packets(0, 0, 1));
        Due.is("packets(0, 0, 0) into a full one", x.packets(0, 0, 0), 0);
        Due.is("one less", x.packets(2, 1, capacity - 1), capacity);
        Due.is("so another has room", x.packets(0, 0, 1), 0);
        refused("now one more of it", x, () -> x.packets(2, 1, capacity));
        refused("and one more of the other", x, () -> x.packets(0, 0, 2));
        Due.is("packets(0, 0, 0)", x.packets(0, 0, 0), 1);
        for (int n : new int[] {-1, capacity + 1, MIN, MAX}) {
            refused("packets(2, 1, " + n + ")", x, () -> x.packets(2, 1, n));
            refused("packets(0, 1, " + n + ")", x, () -> x.packets(0, 1, n));
        }
    }

    private static void lettersInAll(int capacity) {
        HealLink x = link(capacity, 3, 3, 2);
        Due.is("letters(2, 0)", x.letters(2, 0), 0);
        Due.is("letters(2, CAPACITY)", x.letters(2, capacity), 0);
        Due.is("the same again", x.letters(2, capacity), capacity);
        Due.is("of(6)", x.of(6), capacity);
        refused("letters(0, 1) into a full one", x, () -> x.letters(0, 1));
        Due.is("letters(0, 0) into a full one", x.letters(0, 0), 0);
        Due.is("one less", x.letters(2, capacity - 1), capacity);
        Due.is("so another has room", x.letters(0, 1), 0);
        refused("now one more of it", x, () -> x.letters(2, capacity));
        refused("and one more of the other", x, () -> x.letters(0, 2));
        Due.is("letters(0, 0)", x.letters(0, 0), 1);
        for (int n : new int[] {-1, capacity + 1, MIN, MAX}) {
            refused("letters(2, " + n + ")", x, () -> x.letters(2, n));
            refused("letters(1, " + n + ")", x, () -> x.letters(1, n));
        }
    }

    // Promise 8
    private static void queues() {
        Due.sentence("queue(): n (1 to 20)", () -> {
            Due.is("queue(1, 1)", new HealLink().queue(1, 1), 1);
            Due.is("queue(1, 20)", new HealLink().queue(1, 20), 20);
            for (int n : new int[] {0, 21, -1, 32, 33, MIN, MAX}) {
                HealLink x = busy();
                refused("queue(-1, " + n + ")", x, () -> x.queue(-1, n));
            }
        });
        Due.sentence("queue(): the lowest n bits alone, from the lowest on", () -> {
            for (int n = 1; n <= 20; n++) {
                queuedBits(0b10110011100001011010, n);
                queuedBits(~0b10110011100001011010, n);
                queuedBits(-1 << n, n);
                queuedBits(MIN, n);
            }
        });
        Due.sentence("QUEUE: VALUES, 30 at most; NONE: more than 30", () -> {
            for (int n = 10; n <= 20; n++) {
                HealLink x = new HealLink();
                Due.is("queue(0, " + n + ")", x.queue(0, n), n);
                int beyond = 31 - n;
                if (beyond <= 20) {
                    refused("queue(-1, " + beyond + ") behind " + n, x, () -> x.queue(-1, beyond));
                }
                Due.is("queue(-1, " + (30 - n) + ") behind " + n, x.queue(-1, 30 - n), 30);
                refused("queue(-1, 1) behind 30", x, () -> x.queue(-1, 1));
                for (int i = 0; i < 30; i++) {
                    Due.is("queued(" + i + ")", queuedOf(x, i), i < n ? 0 : 1);
                }
            }
        });
        Due.sentence("queue(): come behind QUEUE: a full one has room again as VALUES leave it", () -> {
            HealLink x = link(1, 2, 1, 1);
            x.queue(0, 20);
            x.queue(0b1000000000, 10);
            x.letters(0, 1);
            x.act(2, 0, 0);
            refused("queue(1, 2) behind 29", x, () -> x.queue(1, 2));
            Due.is("queue(1, 1) behind 29", x.queue(1, 1), 30);
            Due.is("queued(27)", queuedOf(x, 27), 0);
            Due.is("queued(28)", queuedOf(x, 28), 1);
            Due.is("queued(29)", queuedOf(x, 29), 1);
        });
    }

    private static void queuedBits(int bits, int n) {
        HealLink x = new HealLink();
        x.queue(0, 1);
        Due.is("queue(" + bits + ", " + n + ")", x.queue(bits, n), n + 1);
        Due.is("queued(0)", queuedOf(x, 0), 0);
        for (int i = 0; i < n; i++) {
            Due.is("queued(" + (1 + i) + ") of " + bits, queuedOf(x, 1 + i), bits >> i & 1);
        }
        Due.is("queued(" + (1 + n) + ")", queuedOf(x, 1 + n), THROWS);
        x.queue(0, 9);
        for (int i = 0; i < 9; i++) {
            Due.is("behind them: queued(" + (1 + n + i) + ")", queuedOf(x, 1 + n + i), 0);
        }
    }

    // Promise 11
    private static void looks() {
        Due.sentence("of(): What 0 to 12; NONE for another what", () -> {
            HealLink x = link(2, 4, 7, 4);
            x.sender(3, 1, 6, true);
            x.packets(3, 1, 2);
            x.letters(3, 2);
            x.queue(0, 20);
            x.queue(0, 10);
            feed(x, " ".repeat(264));
            state("of its most", x, 3, 1, 6, 1, 3, 2, 2, 30, 2, 4, 7, 4, 264);
            for (int what : new int[] {-1, 13, -13, MIN, MAX}) {
                Due.is("of(" + what + ")", x.of(what), NONE);
            }
            x.sender(0, 0, 0, false);
            x.last(0);
            x.packets(3, 1, 0);
            x.letters(3, 0);
            x.end(0);
            state("of its least", x, 0, 0, 0, 0, 0, 0, 0, 30, 2, 4, 7, 4, 0);
            Due.is("of(-1)", x.of(-1), NONE);
        });
        Due.sentence("of(): 5: PACKETS, 6: LETTERS: all of them", () -> {
            HealLink x = link(2, 4, 7, 4);
            for (int one = 0; one < 8; one++) {
                for (int other = one + 1; other < 8; other++) {
                    x.packets(one / 2, one % 2, 1);
                    x.packets(other / 2, other % 2, 1);
                    Due.is("of(5)", x.of(5), 2);
                    x.packets(one / 2, one % 2, 0);
                    Due.is("of(5)", x.of(5), 1);
                    x.packets(other / 2, other % 2, 0);
                    Due.is("of(5)", x.of(5), 0);
                }
            }
            x.letters(0, 1);
            x.letters(3, 1);
            Due.is("of(6)", x.of(6), 2);
        });
    }

    // Promise 12
    private static void looksAtKinds() {
        Due.sentence("kind(): what 0 to 2; NoSuchElementException: others", () -> {
            HealLink x = busy();
            Due.is("kind(2, 1, 0)", kindOf(x, 2, 1, 0), 0);
            Due.is("kind(2, 1, 1)", kindOf(x, 2, 1, 1), 2);
            Due.is("kind(2, 1, 2)", kindOf(x, 2, 1, 2), 0);
            for (int what : new int[] {-1, 3, MIN, MAX}) {
                Due.is("kind(1, 1, " + what + ")", kindOf(x, 1, 1, what), THROWS);
            }
        });
        Due.sentence("kind(): Of a LABEL; NoSuchElementException: others", () -> {
            for (int n = 2; n <= 4; n++) {
                HealLink x = link(1, n, 3, 2);
                for (int what = 0; what < 3; what++) {
                    Due.is("kind(0, 0, " + what + ")", kindOf(x, 0, 0, what), 0);
                    Due.is("kind(n - 1, 1, " + what + ")", kindOf(x, n - 1, 1, what), 0);
                    for (int label : new int[] {-1, n, MIN, MAX}) {
                        Due.is("kind(" + label + ", 0, " + what + ")", kindOf(x, label, 0, what), THROWS);
                    }
                }
            }
        });
        Due.sentence("kind(): Of a VALUE; of LETTERS value whatever", () -> {
            HealLink x = busy();
            for (int value : new int[] {-1, 2, MIN, MAX}) {
                Due.is("kind(1, " + value + ", 0)", kindOf(x, 1, value, 0), THROWS);
                Due.is("kind(1, " + value + ", 1)", kindOf(x, 1, value, 1), THROWS);
                Due.is("kind(1, " + value + ", 2)", kindOf(x, 1, value, 2), 1);
            }
        });
    }

    // Promise 13
    private static void looksAtQueue() {
        Due.sentence("queued(): The i-th VALUE of QUEUE (from 0); NoSuchElementException: none such", () -> {
            for (int size = 0; size <= 30; size++) {
                HealLink x = new HealLink();
                for (int i = 0; i < size; i++) {
                    x.queue(1, 1);
                }
                Due.is("queued(0) of " + size, queuedOf(x, 0), size > 0 ? 1 : THROWS);
                Due.is("queued(" + (size - 1) + ")", queuedOf(x, size - 1), size > 0 ? 1 : THROWS);
                for (int i : new int[] {-1, size, size + 1, 32, MIN, MAX}) {
                    Due.is("queued(" + i + ") of " + size, queuedOf(x, i), THROWS);
                }
            }
        });
    }

    // Promises 30 and 31
    private static void images() {
        Due.sentence("back(): false: nothing is kept; nothing changes", () -> {
            HealLink x = busy();
            refused("back()", x, () -> x.back() ? 1 : NONE);
        });
        Due.sentence("image(): All of 1. is kept", () -> {
            HealLink x = link(2, 4, 7, 4);
            x.queue(0xABCDE, 20);
            x.queue(0x2F0, 10);
            x.sender(3, 1, 6, true);
            x.last(2);
            x.packets(3, 1, 1);
            x.packets(0, 0, 1);
            x.letters(3, 1);
            x.letters(0, 1);
            for (int kind = 0; kind < 8; kind++) {
                x.seen(kind / 2, kind % 2, kind % 4);
            }
            keptAndBack(x);
            HealLink atFirst = new HealLink();
            keptAndBack(atFirst);
        });
        Due.sentence("image(): not what is counted, not rows", () -> {
            HealLink x = link(1, 2, 1, 1);
            x.image();
            x.run(100, 1, true);
            feed(x, "send;");
            String counted = counted(x);
            x.back();
            Due.is("counted", counted(x), counted);
            Due.is("of(0)", x.of(0), 0);
            Due.is("of(12)", x.of(12), 5);
        });
        Due.sentence("back(): It is as kept, the latest time and each time", () -> {
            HealLink x = new HealLink();
            x.last(0);
            x.image();
            x.last(1);
            x.image();
            for (int i = 0; i < 3; i++) {
                x.last(2);
                x.queue(1, 1);
                Due.is("back()", x.back(), true);
                Due.is("of(4)", x.of(4), 1);
                Due.is("of(7)", x.of(7), 0);
            }
        });
        Due.sentence("back(): QUEUE is as kept: nothing of the one between comes back", () -> {
            HealLink x = new HealLink();
            x.image();
            x.queue(-1, 20);
            x.back();
            Due.is("queue(0, 3)", x.queue(0, 3), 3);
            Due.is("told", told(x), "0 0 0 0 2 0 0 3 1 3 3 2 | 0 0 0 0 0 0 | 0 0 0 0 0 0 | 0 0 0 0 0 0 | 0 0 0 ");
        });
    }

    private static void keptAndBack(HealLink x) {
        String told = told(x);
        Due.is("image()", x.image(), true);
        Due.is("told", told(x), told);
        x.run(200, 77, true);
        x.sender(1, 0, 1, false);
        x.last(1);
        x.seen(1, 0, 1);
        x.queue(1, 1);
        Due.is("back()", x.back(), true);
        Due.is("told", told(x), told);
    }
}
