import java.util.ArrayList;
import java.util.List;

/**
 * Each sentence about what is done act by act (Terms 1. and 2., promises 9, 10, 14 and 15): the last
 * case that the document allows, and the first one beyond it.
 */
public final class ActBoundaryTest extends Links {
    private static final int MIN = Integer.MIN_VALUE;
    private static final int MAX = Integer.MAX_VALUE;
    private static final int[] FAR = {-2, 100, MIN, MAX};

    private static final int SEND = 0;
    private static final int ARRIVE = 1;
    private static final int COME = 2;
    private static final int LOSE = 3;
    private static final int DROP = 4;

    private ActBoundaryTest() {
    }

    public static void main(String[] args) {
        refusals();
        sends();
        arrivals();
        deliveries();
        letters();
        goesOn();
        losses();
        counts();
        runs();
        possibleActs();
        manyCalls();
        Due.close("ActBoundaryTest");
    }

    private static void notThere(HealLink x, int what, int label, int value) {
        refused("act(" + what + ", " + label + ", " + value + ")", x, () -> x.act(what, label, value));
    }

    /** A LETTER comes to a link that has so many acks and wants so many. */
    private static int come(HealLink x, int label) {
        x.letters(label, 1);
        return x.act(COME, label, 0);
    }

    /** A PACKET arrives; its LETTER is taken away again. */
    private static int arrive(HealLink x, int label, int value) {
        x.packets(label, value, 1);
        int answer = x.act(ARRIVE, label, value);
        x.letters(label, 0);
        return answer;
    }

    // Promise 9
    private static void refusals() {
        Due.sentence("act(): ACTS 0 to 4; NONE: others", () -> {
            HealLink x = link(1, 2, 2, 2);
            x.packets(0, 0, 1);
            x.letters(0, 1);
            for (int what : new int[] {-1, 5, 6, MIN, MAX}) {
                notThere(x, what, 0, 0);
            }
            Due.is("act(4, 0, 0)", x.act(4, 0, 0), 0);
            Due.is("act(3, 0, 0)", x.act(3, 0, 0), 0);
            Due.is("act(0, 0, 0)", x.act(0, 0, 0), 0);
        });
        Due.sentence("act(): NONE: not there", () -> {
            HealLink x = link(2, 3, 2, 2);
            for (int what = 1; what <= 4; what++) {
                notThere(x, what, 0, 0);
            }
            x.packets(1, 1, 2);
            x.letters(1, 2);
            for (int what = 1; what <= 4; what++) {
                notThere(x, what, 0, 1);
                notThere(x, what, 2, 1);
            }
            notThere(x, ARRIVE, 1, 0);
            notThere(x, LOSE, 1, 0);
        });
        Due.sentence("act(): NONE: LABELS and VALUES that there are not", () -> {
            for (int n = 2; n <= 4; n++) {
                HealLink x = link(2, n, 2, 2);
                x.packets(n - 1, 1, 1);
                x.packets(0, 0, 1);
                x.letters(n - 1, 1);
                x.letters(0, 1);
                for (int what = 1; what <= 4; what++) {
                    for (int label : new int[] {-1, n, -n, MIN, MAX}) {
                        notThere(x, what, label, 0);
                        notThere(x, what, label, 1);
                    }
                }
                for (int value : new int[] {-1, 2, 3, MIN, MAX}) {
                    notThere(x, ARRIVE, 0, value);
                    notThere(x, LOSE, 0, value);
                    notThere(x, ARRIVE, n - 1, value);
                    notThere(x, LOSE, n - 1, value);
                }
                Due.is("act(3, n - 1, 1)", x.act(LOSE, n - 1, 1), 0);
                Due.is("act(4, n - 1, 1)", x.act(DROP, n - 1, 1), 0);
            }
        });
        Due.sentence("act(): label, value only as it needs them, else whatever", () -> {
            for (int any : FAR) {
                HealLink x = link(2, 2, 2, 2);
                Due.is("act(0, " + any + ", " + any + ")", x.act(SEND, any, any), 0);
                Due.is("kind(0, 0, 1)", kindOf(x, 0, 0, 1), 1);
                x.letters(0, 2);
                Due.is("act(2, 0, " + any + ")", x.act(COME, 0, any), 0);
                Due.is("of(2)", x.of(2), 1);
                Due.is("act(4, 0, " + any + ")", x.act(DROP, 0, any), 0);
                Due.is("of(6)", x.of(6), 0);
            }
        });
    }

    private static void sends() {
        Due.sentence("SEND: a PACKET of the SENDER's LABEL and VALUE is put into FORWARD", () -> {
            for (int kind = 0; kind < 8; kind++) {
                HealLink x = link(2, 4, 3, 2);
                x.sender(kind / 2, kind % 2, 2, true);
                Due.is("act(0, ..)", x.act(SEND, 0, 0), 0);
                Due.is("the PACKET", kindOf(x, kind / 2, kind % 2, 1), 1);
                Due.is("of(5)", x.of(5), 1);
                state("as it was", x, kind / 2, kind % 2, 2, 1, 3);
            }
        });
        Due.sentence("SEND: if FORWARD is full, it is lost", () -> {
            for (int capacity = 1; capacity <= 2; capacity++) {
                HealLink x = link(capacity, 3, 3, 2);
                x.packets(2, 1, capacity - 1);
                Due.is("act(0, ..) with one place left", x.act(SEND, 0, 0), 0);
                Due.is("kind(0, 0, 1)", kindOf(x, 0, 0, 1), 1);
                Due.is("count(6)", x.count(6), 0);
                Due.is("act(0, ..) with none left", x.act(SEND, 0, 0), 0);
                Due.is("kind(0, 0, 1)", kindOf(x, 0, 0, 1), 1);
                Due.is("kind(2, 1, 1)", kindOf(x, 2, 1, 1), capacity - 1);
                Due.is("of(5)", x.of(5), capacity);
                Due.is("count(6)", x.count(6), 1);
                Due.is("count(0)", x.count(0), 2);
            }
        });
        Due.sentence("SEND: a full BACK bars nothing", () -> {
            HealLink x = link(1, 3, 3, 2);
            x.letters(0, 1);
            x.act(SEND, 0, 0);
            Due.is("of(5)", x.of(5), 1);
            Due.is("count(6)", x.count(6), 0);
        });
    }

    private static void arrivals() {
        Due.sentence("ARRIVE of a PACKET that is there: it is there no more", () -> {
            HealLink x = link(2, 3, 3, 4);
            x.packets(1, 1, 2);
            Due.is("the first of two", x.act(ARRIVE, 1, 1), 0);
            Due.is("kind(1, 1, 1)", kindOf(x, 1, 1, 1), 1);
            Due.is("the last", x.act(ARRIVE, 1, 1), 0);
            Due.is("kind(1, 1, 1)", kindOf(x, 1, 1, 1), 0);
            notThere(x, ARRIVE, 1, 1);
            Due.is("nothing is lost: count(6)", x.count(6), 0);
        });
        Due.sentence("ARRIVE: if its LABEL is not LAST, SEEN of it is 1 more", () -> {
            HealLink x = link(2, 3, 3, 4);
            x.last(1);
            for (int kind = 0; kind < 6; kind++) {
                Due.is("the first copy", arrive(x, kind / 2, kind % 2), 0);
                Due.is("kind(.., 0)", kindOf(x, kind / 2, kind % 2, 0), kind / 2 == 1 ? 0 : 1);
            }
            x.seen(1, 0, 3);
            Due.is("a copy of LAST that was SEEN", arrive(x, 1, 0), 0);
            Due.is("kind(1, 0, 0)", kindOf(x, 1, 0, 0), 3);
        });
        Due.sentence("ARRIVE: if SEEN is COPIES WANTED, it is DELIVERED", () -> {
            for (int copies = 1; copies <= 4; copies++) {
                HealLink x = link(1, 3, 3, copies);
                for (int copy = 1; copy < copies; copy++) {
                    Due.is("copy " + copy + " of " + copies, arrive(x, 0, 0), 0);
                    Due.is("kind(0, 0, 0)", kindOf(x, 0, 0, 0), copy);
                    Due.is("of(4)", x.of(4), 2);
                }
                Due.is("copy " + copies + " of " + copies, arrive(x, 0, 0), 1);
                Due.is("of(4): LAST is its LABEL", x.of(4), 0);
                Due.is("kind(0, 0, 0)", kindOf(x, 0, 0, 0), 0);
                Due.is("one more", arrive(x, 0, 0), 0);
                Due.is("kind(0, 0, 0)", kindOf(x, 0, 0, 0), 0);
                Due.is("row(1, NONE)", x.row(1, NONE), 1);
            }
        });
        Due.sentence("SEEN of each LABEL and VALUE: copies of another don't count", () -> {
            HealLink x = link(1, 3, 3, 2);
            Due.is("0 0", arrive(x, 0, 0), 0);
            Due.is("0 1", arrive(x, 0, 1), 0);
            Due.is("1 0", arrive(x, 1, 0), 0);
            Due.is("0 0", arrive(x, 0, 0), 1);
        });
        Due.sentence("DELIVERED: all SEEN are 0", () -> {
            HealLink x = link(1, 4, 3, 4);
            for (int kind = 0; kind < 8; kind++) {
                x.seen(kind / 2, kind % 2, 3);
            }
            Due.is("act(1, 1, 0)", arrive(x, 1, 0), 2);
            for (int kind = 0; kind < 8; kind++) {
                Due.is("kind(.., 0)", kindOf(x, kind / 2, kind % 2, 0), 0);
            }
            state("all else as it was", x, 0, 0, 0, 0, 1, 0, 0);
        });
    }

    private static void deliveries() {
        Due.sentence("Then (whatever LABEL) a LETTER of its LABEL is put into BACK", () -> {
            for (int label = 0; label < 4; label++) {
                for (int copies = 1; copies <= 2; copies++) {
                    HealLink x = link(1, 4, 3, copies);
                    x.packets(label, 1, 1);
                    x.act(ARRIVE, label, 1);
                    Due.is("kind(.., 2)", kindOf(x, label, 0, 2), 1);
                    Due.is("of(6)", x.of(6), 1);
                }
            }
        });
        Due.sentence("ARRIVE: if BACK is full, its LETTER is lost", () -> {
            for (int capacity = 1; capacity <= 2; capacity++) {
                HealLink x = link(capacity, 3, 3, 1);
                x.letters(2, capacity - 1);
                x.packets(0, 0, 1);
                Due.is("with one place left", x.act(ARRIVE, 0, 0), 1);
                Due.is("kind(0, 0, 2)", kindOf(x, 0, 0, 2), 1);
                Due.is("count(7)", x.count(7), 0);
                x.packets(1, 0, 1);
                Due.is("with none left it is DELIVERED, too", x.act(ARRIVE, 1, 0), 2);
                Due.is("kind(1, 0, 2)", kindOf(x, 1, 0, 2), 0);
                Due.is("of(6)", x.of(6), capacity);
                Due.is("count(7)", x.count(7), 1);
                Due.is("count(6)", x.count(6), 0);
            }
        });
        Due.sentence("DELIVERED: a GHOST, if its LABEL or VALUE is not that of the SENDER", () -> {
            for (int taken = 0; taken < 2; taken++) {
                for (int kind = 0; kind < 6; kind++) {
                    HealLink x = link(1, 3, 3, 1);
                    x.last(kind / 2 == 0 ? 2 : 0);
                    x.sender(1, 0, 0, taken == 1);
                    int due = kind == 2 ? taken == 1 ? 3 : 1 : 2;
                    Due.is("act(1, " + kind / 2 + ", " + kind % 2 + ")", arrive(x, kind / 2, kind % 2), due);
                    Due.is("of(3)", x.of(3), kind == 2 ? 1 : taken);
                    Due.is("row(1, 0)", x.row(1, 0), kind % 2);
                }
            }
        });
        Due.sentence("DELIVERED: else DOUBLED, if that is TAKEN; else GOOD: it is TAKEN", () -> {
            HealLink x = link(1, 3, 3, 1);
            Due.is("not TAKEN", arrive(x, 0, 0), 1);
            Due.is("of(3)", x.of(3), 1);
            x.last(1);
            Due.is("TAKEN", arrive(x, 0, 0), 3);
            Due.is("of(3)", x.of(3), 1);
            x.last(1);
            x.sender(0, 0, 0, false);
            Due.is("not TAKEN", arrive(x, 0, 0), 1);
        });
    }

    private static void letters() {
        Due.sentence("COME of a LETTER that is there: it is there no more", () -> {
            HealLink x = link(2, 3, 7, 2);
            x.letters(2, 2);
            Due.is("the first of two", x.act(COME, 2, 0), 0);
            Due.is("kind(2, 0, 2)", kindOf(x, 2, 0, 2), 1);
            Due.is("the last", x.act(COME, 2, 0), 0);
            Due.is("kind(2, 0, 2)", kindOf(x, 2, 0, 2), 0);
            notThere(x, COME, 2, 0);
            Due.is("nothing is lost: count(7)", x.count(7), 0);
        });
        Due.sentence("COME: if its LABEL is that of the SENDER, ACKS are 1 more", () -> {
            for (int sender = 0; sender < 4; sender++) {
                for (int label = 0; label < 4; label++) {
                    HealLink x = link(1, 4, 7, 2);
                    x.sender(sender, 1, 5, true);
                    Due.is("act(2, " + label + ", ..)", come(x, label), 0);
                    state("SENDER", x, sender, 1, label == sender ? 6 : 5, 1, 3, 0, 0);
                }
            }
        });
        Due.sentence("COME: if that is ACKS WANTED, the SENDER GOES ON", () -> {
            for (int wanted = 1; wanted <= 7; wanted++) {
                HealLink x = link(1, 3, wanted, 2);
                x.sender(0, 1, 0, true);
                for (int acks = 1; acks < wanted; acks++) {
                    Due.is("letter " + acks + " of " + wanted, come(x, 0), 0);
                    state("SENDER", x, 0, 1, acks, 1);
                }
                Due.is("letter " + wanted + " of " + wanted, come(x, 0), 4);
                state("SENDER", x, 1, 0, 0, 0);
                Due.is("of the LABEL before", come(x, 0), 0);
                state("SENDER", x, 1, 0, 0, 0);
            }
        });
        Due.sentence("COME: of another LABEL, though ACKS are one less than WANTED", () -> {
            HealLink x = link(1, 3, 1, 1);
            Due.is("act(2, 1, ..)", come(x, 1), 0);
            Due.is("act(2, 2, ..)", come(x, 2), 0);
            state("SENDER", x, 0, 0, 0, 0);
            Due.is("count(5)", x.count(5), 0);
        });
    }

    private static void goesOn() {
        Due.sentence("GOES ON: LABEL is the next (0 behind the last one)", () -> {
            for (int n = 2; n <= 4; n++) {
                HealLink x = link(1, n, 1, 1);
                for (int turn = 1; turn <= 2 * n + 1; turn++) {
                    Due.is("it GOES ON", come(x, x.of(0)), 5);
                    Due.is("of(0)", x.of(0), turn % n);
                }
            }
        });
        Due.sentence("GOES ON: ACKS are 0, it is not TAKEN", () -> {
            HealLink x = link(1, 3, 7, 1);
            x.sender(1, 0, 6, true);
            come(x, 1);
            state("SENDER", x, 2, 0, 0, 0, 2, 0, 0);
        });
        Due.sentence("GOES ON: VALUE is the first of QUEUE (which leaves it; of an empty one 0)", () -> {
            HealLink x = link(1, 2, 1, 1);
            x.sender(0, 1, 0, true);
            x.queue(0b1101, 4);
            int[] values = {1, 0, 1, 1, 0, 0};
            for (int i = 0; i < values.length; i++) {
                come(x, x.of(0));
                Due.is("of(1)", x.of(1), values[i]);
                Due.is("of(7)", x.of(7), Math.max(3 - i, 0));
                Due.is("queued(0)", queuedOf(x, 0), i < 3 ? values[i + 1] : THROWS);
            }
        });
        Due.sentence("GOES ON: the whole QUEUE of 30, in order", () -> {
            HealLink x = link(1, 4, 1, 1);
            int bits = 0b100110111000011110100101100101;
            x.queue(bits, 15);
            x.queue(bits >> 15, 15);
            for (int i = 0; i < 30; i++) {
                come(x, x.of(0));
                Due.is("of(1), " + i, x.of(1), bits >> i & 1);
                Due.is("of(7)", x.of(7), 29 - i);
            }
            come(x, x.of(0));
            Due.is("of(1) of an empty one", x.of(1), 0);
        });
        Due.sentence("QUEUE: an ACK alone, a GHOST or another LETTER takes nothing of it", () -> {
            HealLink x = link(1, 2, 2, 1);
            x.queue(1, 1);
            come(x, 1);
            come(x, 0);
            arrive(x, 0, 1);
            arrive(x, 1, 1);
            Due.is("of(7)", x.of(7), 1);
            Due.is("of(1)", x.of(1), 0);
        });
        Due.sentence("As the SENDER GOES ON and is not TAKEN, its message is SKIPPED", () -> {
            HealLink x = link(1, 2, 1, 1);
            x.sender(0, 0, 0, true);
            Due.is("TAKEN", come(x, 0), 4);
            Due.is("count(4)", x.count(4), 0);
            Due.is("not TAKEN", come(x, 1), 5);
            Due.is("count(4)", x.count(4), 1);
            Due.is("count(5)", x.count(5), 2);
        });
    }

    private static void losses() {
        Due.sentence("LOSE a PACKET that is there", () -> {
            HealLink x = link(2, 3, 3, 1);
            x.packets(1, 0, 2);
            Due.is("act(3, 1, 0)", x.act(LOSE, 1, 0), 0);
            Due.is("kind(1, 0, 1)", kindOf(x, 1, 0, 1), 1);
            Due.is("act(3, 1, 0)", x.act(LOSE, 1, 0), 0);
            Due.is("kind(1, 0, 1)", kindOf(x, 1, 0, 1), 0);
            notThere(x, LOSE, 1, 0);
            Due.is("counted", counted(x), "2 0 0 0 0 0 2 0 | | ");
        });
        Due.sentence("LOSE a LETTER that is there", () -> {
            HealLink x = link(2, 3, 1, 1);
            x.letters(0, 2);
            Due.is("act(4, 0, ..)", x.act(DROP, 0, 0), 0);
            Due.is("kind(0, 0, 2)", kindOf(x, 0, 0, 2), 1);
            Due.is("act(4, 0, ..)", x.act(DROP, 0, 0), 0);
            Due.is("kind(0, 0, 2)", kindOf(x, 0, 0, 2), 0);
            notThere(x, DROP, 0, 0);
            Due.is("counted", counted(x), "2 0 0 0 0 0 0 2 | | ");
        });
    }

    // Promise 14
    private static void counts() {
        Due.sentence("count(): what 0 to 7; NONE for another what", () -> {
            HealLink x = new HealLink();
            Due.is("count(0)", x.count(0), 0);
            Due.is("count(7)", x.count(7), 0);
            for (int what : new int[] {-1, 8, MIN, MAX}) {
                Due.is("count(" + what + ")", x.count(what), NONE);
            }
        });
        Due.sentence("count(): each by its own act alone", () -> {
            HealLink x = link(1, 2, 1, 1);
            x.act(SEND, 0, 0);
            Due.is("SEND", counted(x), "1 0 0 0 0 0 0 0 | | ");
            x.act(SEND, 0, 0);
            Due.is("SEND into a full one", counted(x), "2 0 0 0 0 0 1 0 | | ");
            x.act(ARRIVE, 0, 0);
            Due.is("GOOD", counted(x), "3 1 0 0 0 0 1 0 | | 0 ");
            x.packets(1, 1, 1);
            x.act(ARRIVE, 1, 1);
            Due.is("a GHOST, BACK full", counted(x), "4 1 1 0 0 0 1 1 | | 0 1 ");
            x.packets(0, 0, 1);
            x.letters(0, 0);
            x.act(ARRIVE, 0, 0);
            Due.is("DOUBLED", counted(x), "5 1 1 1 0 0 1 1 | | 0 1 0 ");
            x.act(COME, 0, 0);
            Due.is("it GOES ON", counted(x), "6 1 1 1 0 1 1 1 | 0 | 0 1 0 ");
            come(x, 1);
            Due.is("it GOES ON and SKIPPED", counted(x), "7 1 1 1 1 2 1 1 | 0 0 | 0 1 0 ");
            x.packets(0, 0, 1);
            x.act(LOSE, 0, 0);
            Due.is("LOSE a PACKET", counted(x), "8 1 1 1 1 2 2 1 | 0 0 | 0 1 0 ");
            x.letters(1, 1);
            x.act(DROP, 1, 0);
            Due.is("LOSE a LETTER", counted(x), "9 1 1 1 1 2 2 2 | 0 0 | 0 1 0 ");
        });
    }

    // Promise 10
    private static void runs() {
        Due.sentence("run(): n (1 to 200); NONE: others", () -> {
            HealLink x = link(1, 2, 1, 1);
            Due.is("run(1, ..)", x.run(1, 3, true) >= 0, true);
            Due.is("count(0)", x.count(0), 1);
            Due.is("run(200, ..)", x.run(200, 3, true) >= 0, true);
            Due.is("count(0)", x.count(0), 201);
            for (int n : new int[] {0, 201, -1, MIN, MAX}) {
                refused("run(" + n + ", ..)", x, () -> x.run(n, 3, true));
                refused("run(" + n + ", ..)", x, () -> x.run(n, 3, false));
            }
        });
        Due.sentence("run(): each x is x * 1103515245 + 12345 (an int, wrapping); (x >>> 8) % how many", () -> {
            for (int seed : new int[] {0, 1, -1, 2, 7, 100, -100, 65536, MIN, MAX, 1 << 30, -12345}) {
                drawnOne(seed);
            }
        });
        Due.sentence("run(): as by hand, act by act", () -> {
            for (int seed : new int[] {0, 1, -7, 123456789, MIN, MAX}) {
                drawn(seed, true, 1);
                drawn(seed, true, 200);
                drawn(seed, false, 2);
                drawn(seed, false, 200);
            }
        });
        Due.sentence("run(): without LOSE unless told", () -> {
            for (int seed = 0; seed < 50; seed++) {
                HealLink x = link(1, 2, 7, 4);
                x.packets(1, 1, 1);
                x.run(1, seed, false);
                boolean sent = x.count(6) == 1 && x.of(5) == 1;
                boolean arrived = x.count(6) == 0 && x.of(5) == 0 && x.of(6) == 1;
                Due.is("SEND or ARRIVE", sent || arrived, true);
            }
        });
        Due.sentence("run(): how many BAD ones: GHOSTS, DOUBLED, SKIPPED ones, of this run alone", () -> {
            HealLink x = link(2, 2, 1, 1);
            int bad = 0;
            for (int seed = 0; seed < 40; seed++) {
                bad += x.run(100, seed, seed % 2 == 0);
                Due.is("all so far", bad, x.count(2) + x.count(3) + x.count(4));
            }
            Due.is("each of them came", Math.min(x.count(2), Math.min(x.count(3), x.count(4))) > 0, true);
            Due.is("others, too", x.count(1) > 0 && x.count(5) > x.count(4), true);
        });
    }

    /** One act, drawn of SEND, ARRIVE and LOSE, or of SEND and ARRIVE. */
    private static void drawnOne(int seed) {
        int x = (int) (seed * 1103515245L + 12345L);
        for (boolean lose : new boolean[] {false, true}) {
            HealLink link = link(1, 2, 7, 4);
            link.packets(1, 1, 1);
            Due.is("run(1, " + seed + ", " + lose + ")", link.run(1, seed, lose), 0);
            int due = (x >>> 8) % (lose ? 3 : 2);
            int done = link.of(6) == 1 ? 1 : link.of(5) == 1 ? 0 : 2;
            Due.is("the act drawn by " + seed, done, due);
        }
    }

    private static void drawn(int seed, boolean lose, int n) {
        HealLink x = link(2, 2, 1, 1);
        HealLink y = link(2, 2, 1, 1);
        int bad = 0;
        int drawn = seed;
        for (int i = 0; i < n; i++) {
            drawn = drawn * 1103515245 + 12345;
            int many = 0;
            for (int j = 0; j < y.possible(NONE, 0); j++) {
                many += lose || y.possible(j, 0) < LOSE ? 1 : 0;
            }
            int act = (drawn >>> 8) % many;
            int answer = y.act(y.possible(act, 0), y.possible(act, 1), y.possible(act, 2));
            bad += answer == 2 || answer == 3 || answer == 5 ? 1 : 0;
        }
        Due.is("run(" + n + ", " + seed + ", " + lose + ")", x.run(n, seed, lose), bad);
        Due.is("everything behind it", everything(x), everything(y));
    }

    // Promise 15
    private static void possibleActs() {
        Due.sentence("possible(): the i-th (from 0); i NONE: how many; NONE: none such", () -> {
            for (int letters = 0; letters < 3; letters++) {
                HealLink x = link(2, 3, 3, 2);
                x.letters(0, letters > 0 ? 1 : 0);
                x.letters(2, letters > 1 ? 1 : 0);
                int many = 1 + 2 * letters;
                for (int what = 0; what < 3; what++) {
                    Due.is("possible(NONE, " + what + ")", x.possible(NONE, what), many);
                    for (int i : new int[] {-2, many, many + 1, 9, 10, MIN, MAX}) {
                        Due.is("possible(" + i + ", " + what + ")", x.possible(i, what), NONE);
                    }
                }
                Due.is("possible(0, 0)", x.possible(0, 0), SEND);
                Due.is("the last", x.possible(many - 1, 0), letters > 0 ? DROP : SEND);
            }
        });
        Due.sentence("possible(): what 0 to 2; NONE: others", () -> {
            HealLink x = link(2, 3, 3, 2);
            x.packets(2, 1, 1);
            for (int what : new int[] {-1, 3, MIN, MAX}) {
                for (int i = NONE; i < 4; i++) {
                    Due.is("possible(" + i + ", " + what + ")", x.possible(i, what), NONE);
                }
            }
            Due.is("possible(1, 2)", x.possible(1, 2), 1);
        });
        Due.sentence("POSSIBLE ACTS, in order: by LABEL, then VALUE (like ones once)", () -> {
            for (int one = 0; one < 8; one++) {
                for (int other = one; other < 8; other++) {
                    inOrder(one, other, one % 4, 3);
                    inOrder(one, other, other % 4, other % 4);
                    inOrder(one, other, 0, one / 2);
                }
            }
        });
        Due.sentence("POSSIBLE ACTS: one alone, and as many as there can be", () -> {
            HealLink x = link(2, 4, 1, 1);
            Due.is("one", x.possible(NONE, 0), 1);
            x.packets(3, 0, 1);
            x.packets(3, 1, 1);
            x.letters(2, 1);
            x.letters(3, 1);
            Due.is("nine", x.possible(NONE, 0), 9);
            Due.is("where it would GO ON, too", x.sender(3, 0, 0, false), true);
            Due.is("nine", x.possible(NONE, 0), 9);
            Due.is("possible(4, 0): the next VALUE is not told", x.possible(4, 0), COME);
            Due.is("possible(4, 1)", x.possible(4, 1), 3);
            Due.is("possible(5, 0)", x.possible(5, 0), LOSE);
        });
    }

    private static void inOrder(int one, int other, int letter, int further) {
        HealLink x = link(2, 4, 3, 2);
        x.packets(one / 2, one % 2, 1);
        x.packets(other / 2, other % 2, one == other ? 2 : 1);
        x.letters(letter, 1);
        x.letters(further, letter == further ? 2 : 1);
        List<int[]> acts = new ArrayList<>();
        acts.add(new int[] {SEND, NONE, NONE});
        for (int lose = 0; lose < 2; lose++) {
            for (int kind = 0; kind < 8; kind++) {
                if (kind == one || kind == other) {
                    acts.add(new int[] {lose == 0 ? ARRIVE : LOSE, kind / 2, kind % 2});
                }
            }
            for (int label = 0; label < 4; label++) {
                if (label == letter || label == further) {
                    acts.add(new int[] {lose == 0 ? COME : DROP, label, NONE});
                }
            }
        }
        Due.is("possible(NONE, 0)", x.possible(NONE, 0), acts.size());
        for (int i = 0; i < acts.size(); i++) {
            for (int what = 0; what < 3; what++) {
                Due.is("possible(" + i + ", " + what + ")", x.possible(i, what), acts.get(i)[what]);
            }
        }
    }

    private static void manyCalls() {
        Due.sentence("An object is used for at most 512 calls", () -> {
            HealLink x = new HealLink();
            for (int call = 1; call < 512; call++) {
                if (x.run(200, call, true) < 0) {
                    Due.is("call " + call, "refused", "done");
                }
            }
            Due.is("call 512: count(0)", x.count(0), 511 * 200);
        });
    }
}
