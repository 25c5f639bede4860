/** Each promise by hand: ordinary calls, the edges that the document names, wrong ones. */
public final class PromiseTest extends Links {
    private PromiseTest() {
    }

    public static void main(String[] args) {
        aNewObject();
        set();
        sender();
        last();
        seen();
        packets();
        letters();
        queue();
        actOfPackets();
        actOfLetters();
        run();
        of();
        kind();
        queued();
        count();
        possible();
        reached();
        justKnown();
        worst();
        soonestAndWay();
        wayUnknown();
        wayTellsTheNextValue();
        barrenAndSteps();
        odds();
        enough();
        every();
        struckAndRow();
        feedAndEnd();
        scriptDone();
        scriptStops();
        scriptFaults();
        imageAndBack();
        Due.close("PromiseTest");
    }

    // Promise 1
    private static void aNewObject() {
        HealLink x = new HealLink();
        state("new", x, 0, 0, 0, 0, 2, 0, 0, 0, 1, 3, 3, 2, 0);
        for (int label = 0; label < 3; label++) {
            for (int what = 0; what < 6; what++) {
                Due.is("new: kind", kindOf(x, label, what % 2, what / 2), 0);
            }
        }
        for (int what = 0; what < 8; what++) {
            Due.is("new: count(" + what + ")", x.count(what), 0);
        }
        Due.is("new: row(0)", x.row(0, NONE), 0);
        Due.is("new: row(1)", x.row(1, NONE), 0);
        Due.is("new: back()", x.back(), false);
        Due.is("NONE", HealLink.NONE, -1);
    }

    // Promise 2
    private static void set() {
        int[] least = {1, 2, 1, 1};
        int[] most = {2, 4, 7, 4};
        int[] first = {1, 3, 3, 2};
        for (int what = 0; what < 4; what++) {
            HealLink x = new HealLink();
            int was = first[what];
            for (int v = least[what]; v <= most[what]; v++) {
                Due.is("set(" + what + "," + v + ")", x.set(what, v), was);
                Due.is("of " + what, x.of(8 + what), v);
                was = v;
            }
            Due.is("set below", x.set(what, least[what] - 1), NONE);
            Due.is("set above", x.set(what, most[what] + 1), NONE);
            Due.is("set far", x.set(what, Integer.MIN_VALUE), NONE);
            Due.is("as before", x.of(8 + what), most[what]);
        }
        Due.is("set(-1)", new HealLink().set(-1, 2), NONE);
        Due.is("set(4)", new HealLink().set(4, 2), NONE);
        setStartsAnew();
    }

    private static void setStartsAnew() {
        HealLink x = link(1, 3, 2, 1);
        x.queue(7, 3);
        x.image();
        x.run(60, 5, true);
        x.sender(1, 1, 1, true);
        x.last(1);
        feed(x, "send;");
        Due.is("refused set", x.set(1, 9), NONE);
        Due.is("a refused set changes nothing", x.of(0), 1);
        Due.is("nor the image", x.back(), true);
        x.run(60, 5, true);
        Due.is("same as it was", x.set(2, 2), 2);
        state("set anew", x, 0, 0, 0, 0, 2, 0, 0, 0, 1, 3, 2, 1, 5);
        Due.is("no image", x.back(), false);
        for (int what = 0; what < 8; what++) {
            Due.is("set: count(" + what + ")", x.count(what), 0);
        }
        Due.is("rows empty", x.row(0, NONE) + x.row(1, NONE), 0);
        x.set(1, 4);
        Due.is("LAST is n - 1", x.of(4), 3);
    }

    // Promise 3
    private static void sender() {
        HealLink x = new HealLink();
        Due.is("sender(2,1,2,true)", x.sender(2, 1, 2, true), true);
        state("sender", x, 2, 1, 2, 1, 2);
        Due.is("sender(3,..)", x.sender(3, 0, 0, false), false);
        Due.is("sender(-1,..)", x.sender(-1, 0, 0, false), false);
        Due.is("sender value 2", x.sender(0, 2, 0, false), false);
        Due.is("sender value -1", x.sender(0, -1, 0, false), false);
        Due.is("sender acks 3", x.sender(0, 0, 3, false), false);
        Due.is("sender acks -1", x.sender(0, 0, -1, false), false);
        state("sender refused", x, 2, 1, 2, 1, 2);
        Due.is("sender(0,0,0,false)", x.sender(0, 0, 0, false), true);
        state("sender again", x, 0, 0, 0, 0, 2);
    }

    // Promise 4
    private static void last() {
        HealLink x = new HealLink();
        x.seen(0, 1, 1);
        Due.is("last(0)", x.last(0), 2);
        Due.is("last(1)", x.last(1), 0);
        Due.is("last(3)", x.last(3), NONE);
        Due.is("last(-1)", x.last(-1), NONE);
        Due.is("LAST", x.of(4), 1);
        Due.is("SEEN stays", kindOf(x, 0, 1, 0), 1);
    }

    // Promise 5
    private static void seen() {
        HealLink x = link(1, 3, 3, 4);
        Due.is("seen(2,1,3)", x.seen(2, 1, 3), 0);
        Due.is("seen(2,1,1)", x.seen(2, 1, 1), 3);
        Due.is("seen(2,0,2)", x.seen(2, 0, 2), 0);
        Due.is("seen(2,1,4)", x.seen(2, 1, 4), NONE);
        Due.is("seen(2,1,-1)", x.seen(2, 1, -1), NONE);
        Due.is("seen(3,1,0)", x.seen(3, 1, 0), NONE);
        Due.is("seen(0,2,0)", x.seen(0, 2, 0), NONE);
        Due.is("SEEN 2 1", kindOf(x, 2, 1, 0), 1);
        Due.is("SEEN 2 0", kindOf(x, 2, 0, 0), 2);
    }

    // Promise 6
    private static void packets() {
        HealLink x = link(2, 3, 3, 2);
        Due.is("packets(1,1,2)", x.packets(1, 1, 2), 0);
        Due.is("one more in all", x.packets(0, 0, 1), NONE);
        Due.is("packets(1,1,1)", x.packets(1, 1, 1), 2);
        Due.is("packets(0,0,1)", x.packets(0, 0, 1), 0);
        Due.is("PACKETS", x.of(5), 2);
        Due.is("packets(1,1,2) too many", x.packets(1, 1, 2), NONE);
        Due.is("packets(1,1,3)", x.packets(1, 1, 3), NONE);
        Due.is("packets huge", x.packets(1, 1, Integer.MAX_VALUE), NONE);
        Due.is("packets(1,1,-1)", x.packets(1, 1, -1), NONE);
        Due.is("packets(3,0,0)", x.packets(3, 0, 0), NONE);
        Due.is("packets(0,2,0)", x.packets(0, 2, 0), NONE);
        Due.is("packets(0,0,0)", x.packets(0, 0, 0), 1);
        Due.is("PACKETS 1 1", kindOf(x, 1, 1, 1), 1);
        Due.is("nothing is lost by it", x.count(6), 0);
    }

    // Promise 7
    private static void letters() {
        HealLink x = link(2, 3, 3, 2);
        Due.is("letters(2,2)", x.letters(2, 2), 0);
        Due.is("letters(0,1)", x.letters(0, 1), NONE);
        Due.is("letters(2,1)", x.letters(2, 1), 2);
        Due.is("letters(0,1)", x.letters(0, 1), 0);
        Due.is("letters(2,3)", x.letters(2, 3), NONE);
        Due.is("letters(0,-1)", x.letters(0, -1), NONE);
        Due.is("letters(3,0)", x.letters(3, 0), NONE);
        Due.is("letters(-1,0)", x.letters(-1, 0), NONE);
        Due.is("LETTERS", x.of(6), 2);
        Due.is("one each at CAPACITY 1", new HealLink().letters(0, 2), NONE);
    }

    // Promise 8
    private static void queue() {
        HealLink x = new HealLink();
        Due.is("queue(6,3)", x.queue(6, 3), 3);
        Due.is("queue(-1,20)", x.queue(-1, 20), 23);
        Due.is("queue(0,8)", x.queue(0, 8), NONE);
        Due.is("queue(0,0)", x.queue(0, 0), NONE);
        Due.is("queue(0,21)", x.queue(0, 21), NONE);
        Due.is("queue(2,7)", x.queue(2, 7), 30);
        Due.is("queue(0,1)", x.queue(0, 1), NONE);
        int[] want = {0, 1, 1};
        for (int i = 0; i < 3; i++) {
            Due.is("queued(" + i + ")", queuedOf(x, i), want[i]);
        }
        for (int i = 3; i < 23; i++) {
            Due.is("queued(" + i + ")", queuedOf(x, i), 1);
        }
        for (int i = 23; i < 30; i++) {
            Due.is("queued(" + i + ")", queuedOf(x, i), i == 24 ? 1 : 0);
        }
    }

    // Promise 9
    private static void actOfPackets() {
        HealLink x = link(1, 3, 3, 2);
        Due.is("ARRIVE of none", x.act(1, 0, 0), NONE);
        Due.is("SEND", x.act(0, -5, 77), 0);
        Due.is("SEND into full FORWARD", x.act(0, 0, 0), 0);
        Due.is("lost", x.count(6), 1);
        Due.is("ARRIVE of the other VALUE", x.act(1, 0, 1), NONE);
        Due.is("ARRIVE of a far VALUE", x.act(1, 0, 2), NONE);
        Due.is("first copy", x.act(1, 0, 0), 0);
        Due.is("SEEN", kindOf(x, 0, 0, 0), 1);
        Due.is("a LETTER", kindOf(x, 0, 0, 2), 1);
        x.seen(1, 1, 1);
        x.act(0, 0, 0);
        Due.is("second copy is GOOD", x.act(1, 0, 0), 1);
        state("GOOD", x, 0, 0, 0, 1, 0, 0, 1);
        Due.is("all SEEN are 0", kindOf(x, 0, 0, 0) + kindOf(x, 1, 1, 0), 0);
        Due.is("the LETTER found BACK full", x.count(7), 1);
        x.act(0, 0, 0);
        Due.is("of LAST nothing is delivered", x.act(1, 0, 0), 0);
        Due.is("nor SEEN", kindOf(x, 0, 0, 0), 0);
        x.last(1);
        x.seen(0, 0, 1);
        x.packets(0, 0, 1);
        Due.is("DOUBLED", x.act(1, 0, 0), 3);
        x.seen(2, 0, 1);
        x.packets(2, 0, 1);
        Due.is("a GHOST by LABEL", x.act(1, 2, 0), 2);
        x.seen(0, 1, 1);
        x.packets(0, 1, 1);
        Due.is("a GHOST by VALUE, though TAKEN", x.act(1, 0, 1), 2);
        x.packets(1, 1, 1);
        Due.is("LOSE another", x.act(3, 1, 0), NONE);
        Due.is("LOSE a PACKET", x.act(3, 1, 1), 0);
        Due.is("it is there no more", x.of(5), 0);
        Due.is("act(5)", x.act(5, 0, 0), NONE);
        Due.is("act(-1)", x.act(-1, 0, 0), NONE);
    }

    private static void actOfLetters() {
        HealLink x = link(1, 2, 2, 1);
        Due.is("COME of none", x.act(2, 0, 0), NONE);
        x.queue(1, 1);
        x.letters(1, 1);
        Due.is("COME of another LABEL", x.act(2, 1, 9), 0);
        state("nothing but the LETTER", x, 0, 0, 0, 0, 1, 0, 0, 1);
        x.letters(0, 1);
        Due.is("COME", x.act(2, 0, -3), 0);
        Due.is("an ACK", x.of(2), 1);
        x.letters(0, 1);
        Due.is("GOES ON and SKIPPED", x.act(2, 0, 0), 5);
        state("on by the QUEUE", x, 1, 1, 0, 0, 1, 0, 0, 0);
        x.sender(1, 1, 1, true);
        x.letters(1, 1);
        Due.is("GOES ON", x.act(2, 1, 0), 4);
        state("0 behind the last LABEL, VALUE 0 of none", x, 0, 0, 0, 0, 1, 0, 0, 0);
        x.letters(1, 1);
        Due.is("LOSE another LETTER", x.act(4, 0, 0), NONE);
        Due.is("LOSE a LETTER", x.act(4, 1, 5), 0);
        Due.is("lost", x.count(7), 1);
        Due.is("COME of a far LABEL", x.act(2, 2, 0), NONE);
        Due.is("COME of LABEL -1", x.act(2, -1, 0), NONE);
    }

    // Promise 10: ActBoundaryTest does each run by hand, too.
    private static void run() {
        HealLink x = new HealLink();
        Due.is("run(0)", x.run(0, 1, true), NONE);
        Due.is("run(201)", x.run(201, 1, true), NONE);
        Due.is("run(-1)", x.run(-1, 1, false), NONE);
        Due.is("nothing was done", x.count(0), 0);
        Due.is("run(1)", x.run(1, 1, true), 0);
        Due.is("one ACT", x.count(0), 1);
    }

    // Promise 11
    private static void of() {
        HealLink x = link(2, 4, 7, 4);
        x.sender(3, 1, 6, true);
        x.last(2);
        x.packets(3, 1, 1);
        x.packets(0, 0, 1);
        x.letters(3, 2);
        x.queue(0, 5);
        x.feed(1, 2, 3);
        state("of", x, 3, 1, 6, 1, 2, 2, 2, 5, 2, 4, 7, 4, 24, NONE);
        Due.is("of(-1)", x.of(-1), NONE);
        Due.is("of(MIN)", x.of(Integer.MIN_VALUE), NONE);
    }

    // Promise 12
    private static void kind() {
        HealLink x = link(2, 2, 3, 3);
        x.seen(1, 0, 2);
        x.packets(1, 0, 1);
        x.letters(1, 2);
        Due.is("SEEN", kindOf(x, 1, 0, 0), 2);
        Due.is("PACKETS", kindOf(x, 1, 0, 1), 1);
        Due.is("LETTERS", kindOf(x, 1, 99, 2), 2);
        Due.is("LETTERS of 0", kindOf(x, 0, -1, 2), 0);
        Due.is("SEEN of the other VALUE", kindOf(x, 1, 1, 0), 0);
        int[][] wrong = {{2, 0, 0}, {-1, 0, 1}, {2, 0, 2}, {0, 2, 0}, {0, -1, 1}, {0, 0, 3}, {0, 0, -1}};
        for (int[] w : wrong) {
            Due.is("kind", kindOf(x, w[0], w[1], w[2]), THROWS);
        }
    }

    // Promise 13
    private static void queued() {
        HealLink x = link(1, 2, 1, 1);
        Due.is("queued(0) of none", queuedOf(x, 0), THROWS);
        x.queue(2, 2);
        Due.is("queued(0)", queuedOf(x, 0), 0);
        Due.is("queued(1)", queuedOf(x, 1), 1);
        Due.is("queued(2)", queuedOf(x, 2), THROWS);
        Due.is("queued(-1)", queuedOf(x, -1), THROWS);
        x.letters(0, 1);
        x.act(2, 0, 0);
        Due.is("the first has left", queuedOf(x, 0), 1);
        Due.is("queued(1)", queuedOf(x, 1), THROWS);
    }

    // Promise 14
    private static void count() {
        HealLink x = link(1, 2, 1, 1);
        x.act(0, 0, 0);
        x.act(0, 0, 0);
        x.act(1, 0, 0);
        x.act(2, 0, 0);
        x.packets(0, 1, 1);
        x.last(1);
        x.act(1, 0, 1);
        x.act(4, 0, 0);
        x.letters(1, 1);
        x.act(2, 1, 0);
        x.packets(0, 0, 1);
        x.last(1);
        x.sender(0, 0, 0, true);
        x.letters(1, 1);
        x.act(1, 0, 0);
        x.packets(1, 1, 1);
        x.act(3, 1, 1);
        x.act(3, 1, 1);
        int[] want = {9, 1, 1, 1, 1, 2, 2, 2};
        for (int what = 0; what < 8; what++) {
            Due.is("count(" + what + ")", x.count(what), want[what]);
        }
        Due.is("count(8)", x.count(8), NONE);
        Due.is("count(-1)", x.count(-1), NONE);
    }

    // Promise 15
    private static void possible() {
        HealLink x = link(2, 3, 1, 1);
        Due.is("SEND alone", x.possible(NONE, 0), 1);
        x.packets(2, 0, 1);
        x.packets(0, 1, 1);
        x.letters(1, 1);
        x.letters(0, 1);
        int[][] want = {{0, NONE, NONE}, {1, 0, 1}, {1, 2, 0}, {2, 0, NONE}, {2, 1, NONE},
            {3, 0, 1}, {3, 2, 0}, {4, 0, NONE}, {4, 1, NONE}};
        Due.is("how many", x.possible(NONE, 0), want.length);
        for (int i = 0; i < want.length; i++) {
            for (int what = 0; what < 3; what++) {
                Due.is("possible(" + i + "," + what + ")", x.possible(i, what), want[i][what]);
            }
        }
        possibleOthers(x, want.length);
        x.packets(0, 1, 0);
        x.packets(2, 0, 2);
        Due.is("like ones once", x.possible(NONE, 0), 7);
    }

    /** How many is asked by one of the three `what` that the promise tells, too. */
    private static void possibleOthers(HealLink x, int acts) {
        int[] others = {3, 4, 100, -1, -2, -3, Integer.MAX_VALUE, Integer.MIN_VALUE};
        for (int what : others) {
            for (int i = NONE; i <= acts; i++) {
                Due.is("possible(" + i + "," + what + ")", x.possible(i, what), NONE);
            }
        }
        int[] noSuch = {acts, acts + 1, 100, -2, -3, Integer.MAX_VALUE, Integer.MIN_VALUE};
        for (int what = 0; what < 3; what++) {
            Due.is("possible(NONE," + what + ")", x.possible(NONE, what), acts);
            for (int i : noSuch) {
                Due.is("possible(" + i + "," + what + ")", x.possible(i, what), NONE);
            }
        }
    }

    // Promise 16
    private static void reached() {
        Due.is("reached", link(1, 2, 1, 1).reached(), 48);
        Due.is("reached", link(1, 4, 3, 4).reached(), 5248);
        Due.is("reached, one ACK less", link(1, 4, 2, 4).reached(), -3);
        HealLink x = link(1, 2, 1, 1);
        x.queue(-1, 20);
        Due.is("whatever QUEUE", x.reached(), 48);
        x.packets(0, 1, 1);
        // Five states with what is left of the old packet, from which it all comes to the same 48.
        Due.is("and from another state", x.reached(), 53);
        x.image();
        x.worst();
        x.odds(9);
        x.every(0);
        x.enough();
        Due.is("questions change nothing", x.reached(), 53);
        Due.is("nor count", x.count(0), 0);
        Due.is("nor PACKETS", x.of(5), 1);
    }

    private static void justKnown() {
        HealLink x = link(1, 4, 3, 4);
        Model model = new Model();
        int[] settings = {1, 4, 3, 4};
        for (int what = 0; what < 4; what++) {
            model.set(what, settings[what]);
        }
        x.sender(2, 1, 0, false);
        model.sender(2, 1, 0, false);
        Due.is("6000 are not too many", x.reached(), 6000);
        Due.is("worst", x.worst(), model.worst());
        Due.is("soonest", x.soonest(), model.soonest());
        Due.is("way", x.way(7, 0), model.way(7, 0));
        Due.is("barren", x.barren(), model.barren());
        Due.is("steps", x.steps(), model.steps());
        Due.is("odds", x.odds(40), model.odds(40));
        x.sender(3, 0, 0, true);
        x.last(2);
        x.seen(1, 1, 1);
        x.packets(1, 1, 1);
        Due.is("6007 are", x.reached(), -3);
        Due.is("worst", x.worst(), -3);
        Due.is("odds", x.odds(1), -3);
        x.packets(1, 1, 0);
        x.seen(1, 1, 0);
        x.last(3);
        x.sender(2, 1, 0, false);
        Due.is("6000 again", x.reached(), 6000);
    }

    // Promise 17
    private static void worst() {
        Due.is("it heals", link(1, 3, 3, 2).worst(), 0);
        Due.is("ENDLESS", link(2, 2, 1, 1).worst(), -2);
        Due.is("UNKNOWN", link(2, 4, 1, 1).worst(), -3);
        HealLink x = link(1, 2, 1, 1);
        Due.is("none at first", x.worst(), 0);
        x.packets(0, 1, 1);
        // The GHOST itself, and then the message that its LABEL keeps from being taken is SKIPPED.
        Due.is("an old PACKET", x.worst(), 2);
        x.every(0);
        Due.is("asked again behind every()", x.worst(), 2);
        x.enough();
        Due.is("asked again behind enough()", x.worst(), 2);
        x.packets(0, 1, 0);
        Due.is("it is gone", x.worst(), 0);
        x.letters(0, 1);
        x.packets(1, 0, 1);
        Model model = new Model();
        model.set(1, 2);
        model.set(2, 1);
        model.set(3, 1);
        model.letters(0, 1);
        model.packets(1, 0, 1);
        Due.is("an old PACKET and an old LETTER", x.worst(), model.worst());
    }

    // Promises 18 and 19
    private static void soonestAndWay() {
        HealLink x = link(1, 2, 1, 1);
        Due.is("never", x.soonest(), NONE);
        Due.is("no WAY", x.way(0, 0), -2);
        Due.is("UNKNOWN", link(2, 4, 1, 1).soonest(), -3);
        x.packets(0, 1, 1);
        Due.is("by one ACT", x.soonest(), 1);
        int[] want = {1, 0, 1};
        for (int what = 0; what < 3; what++) {
            Due.is("way(0," + what + ")", x.way(0, what), want[what]);
        }
        Due.is("way(1,0)", x.way(1, 0), -2);
        Due.is("way(-1,0)", x.way(-1, 0), -2);
        Due.is("way(0,3)", x.way(0, 3), -2);
        Due.is("way(0,-1)", x.way(0, -1), -2);
        // Two copies are wanted and one ACK is enough: SEND, ARRIVE, COME skips.
        HealLink y = link(1, 3, 1, 2);
        Due.is("by three ACTS", y.soonest(), 3);
        int[][] way = {{0, NONE, NONE}, {1, 0, 0}, {2, 0, NONE}};
        for (int i = 0; i < 3; i++) {
            for (int what = 0; what < 3; what++) {
                Due.is("way(" + i + "," + what + ")", y.way(i, what), way[i][what]);
            }
        }
        Due.is("way(3,0)", y.way(3, 0), -2);
        Due.is("nothing was done", y.count(0), 0);
    }

    /** Whatever is asked of it, an UNKNOWN WAY is UNKNOWN; of a known one others are none such. */
    private static void wayUnknown() {
        HealLink x = link(2, 4, 1, 1);
        int[] numbers = {0, 1, 2, 3, 4, 100, 6000, -1, -2, -3, Integer.MAX_VALUE, Integer.MIN_VALUE};
        for (int i : numbers) {
            for (int what : numbers) {
                Due.is("UNKNOWN way(" + i + "," + what + ")", x.way(i, what), -3);
            }
        }
        x.set(1, 2);
        x.set(2, 1);
        for (int i : numbers) {
            Due.is("known way(" + i + ",3)", x.way(i, 3), -2);
            Due.is("known way(" + i + ",-1)", x.way(i, -1), -2);
        }
    }

    private static void wayTellsTheNextValue() {
        // By an old packet 1 0 the next message is acknowledged once. As its VALUE is 1, the copy
        // that brings the other letter is no second one of the same: it is skipped.
        HealLink x = link(1, 2, 2, 2);
        x.sender(0, 0, 1, true);
        x.last(0);
        x.packets(1, 0, 1);
        x.letters(0, 1);
        int[][] way = {{102, 0, NONE}, {1, 1, 0}, {0, NONE, NONE}, {2, 1, NONE}, {1, 1, 1}, {2, 1, NONE}};
        Due.is("by six ACTS", x.soonest(), way.length);
        for (int i = 0; i < way.length; i++) {
            for (int what = 0; what < 3; what++) {
                Due.is("way(" + i + "," + what + ")", x.way(i, what), way[i][what]);
            }
        }
        Due.is("way(6,0)", x.way(6, 0), -2);
        x.every(0);
        x.enough();
        Due.is("asked behind other questions", x.way(4, 2), 1);
        walkTheWay(x, way.length);
    }

    /** Done act by act, the WAY must end with something BAD, and with nothing BAD before. */
    private static void walkTheWay(HealLink x, int acts) {
        for (int left = acts; left > 0; left--) {
            Due.is("SOONEST on the WAY", x.soonest(), left);
            int which = x.way(0, 0);
            if (which >= 100) {
                x.queue(1, 1);
            }
            int answer = x.act(which % 100, x.way(0, 1), x.way(0, 2));
            boolean bad = answer == 2 || answer == 3 || answer == 5;
            Due.is("BAD at the end alone", bad, left == 1);
        }
    }

    // Promises 20 and 21
    private static void barrenAndSteps() {
        HealLink x = link(1, 2, 1, 1);
        Due.is("none is BARREN", x.barren(), 0);
        Due.is("SEND, ARRIVE", x.steps(), 2);
        x.packets(0, 0, 1);
        Due.is("ARRIVE", x.steps(), 1);
        HealLink y = link(1, 3, 3, 4);
        Due.is("four times SEND, ARRIVE", y.steps(), 8);
        Due.is("UNKNOWN", link(2, 4, 1, 1).barren(), -3);
        Due.is("UNKNOWN", link(2, 4, 1, 1).steps(), -3);
    }

    // Promise 22
    private static void odds() {
        HealLink x = link(1, 2, 1, 1);
        Due.is("nothing BAD", x.odds(1), Double.doubleToLongBits(1.0));
        x.packets(0, 1, 1);
        // SEND (lost), ARRIVE (a GHOST), LOSE.
        Due.is("two of three", x.odds(1), Double.doubleToLongBits(0.0 + 1.0 / 3 + 1.0 / 3));
        double third = 1.0 / 3;
        double still = third / 3;
        Due.is("twice", x.odds(2), Double.doubleToLongBits(0.0 + still + (still + third)));
        Due.is("odds(0)", x.odds(0), NONE);
        Due.is("odds(41)", x.odds(41), NONE);
        Due.is("odds(-1)", x.odds(-1), NONE);
        HealLink y = link(2, 2, 1, 1);
        Model model = new Model();
        model.set(0, 2);
        model.set(1, 2);
        model.set(2, 1);
        model.set(3, 1);
        for (int k = 1; k <= 40; k++) {
            Due.is("odds(" + k + ")", y.odds(k), model.odds(k));
        }
        Due.is("UNKNOWN", link(2, 4, 1, 1).odds(1), -3);
        Due.is("others, UNKNOWN or not", link(2, 4, 1, 1).odds(0), NONE);
    }

    // Promise 23
    private static void enough() {
        Due.is("by 2", link(1, 3, 3, 2).enough(), 2);
        Due.is("by 4", link(1, 2, 7, 4).enough(), 4);
        Due.is("by 1", link(1, 4, 5, 1).enough(), 1);
        Due.is("by none", link(2, 2, 1, 1).enough(), NONE);
        Due.is("UNKNOWN", link(1, 3, 2, 3).enough(), -3);
        Due.is("by 4 at CAPACITY 2", link(2, 2, 2, 2).enough(), 4);
        HealLink x = link(1, 3, 3, 2);
        Due.is("asked twice", x.enough() + x.enough(), 4);
        Due.is("ACKS WANTED stay", x.of(10), 3);
        Due.is("and reached()", x.reached(), 168);
    }

    // Promise 24
    private static void every() {
        HealLink x = link(1, 2, 1, 1);
        Model model = new Model();
        model.set(0, 1);
        model.set(1, 2);
        model.set(2, 1);
        model.set(3, 1);
        Due.is("greatest", x.every(0), 3);
        Due.is("how many", x.every(1), 240);
        for (int what = 0; what < 10; what++) {
            Due.is("every(" + what + ")", x.every(what), model.every(what));
        }
        Due.is("every(10)", x.every(10), NONE);
        Due.is("every(-1)", x.every(-1), NONE);
        x.set(0, 2);
        model.set(0, 2);
        for (int what = 0; what < 10; what++) {
            Due.is("every(" + what + ")", x.every(what), model.every(what));
        }
        Due.is("ENDLESS", x.every(0), -2);
        HealLink y = link(1, 3, 6, 1);
        for (int what = 0; what < 10; what++) {
            Due.is("UNKNOWN every(" + what + ")", y.every(what), -3);
        }
        Due.is("others, UNKNOWN or not", y.every(10), NONE);
        Due.is("5760 are known", link(1, 4, 2, 1).every(1), 5760);
        Due.is("so many that an int has no room", link(2, 4, 7, 4).every(1), -3);
        Due.is("5760 are known at CAPACITY 2", link(2, 2, 4, 1).every(1), 5760);
        Due.is("7200 are not", link(2, 2, 5, 1).every(1), -3);
        everyWithSeen();
    }

    private static void everyWithSeen() {
        HealLink z = link(1, 2, 1, 2);
        Model model = new Model();
        model.set(1, 2);
        model.set(2, 1);
        model.set(3, 2);
        for (int what = 0; what < 10; what++) {
            Due.is("with SEEN: every(" + what + ")", z.every(what), model.every(what));
        }
    }

    // Promises 25 and 26
    private static void struckAndRow() {
        HealLink x = link(1, 2, 1, 1);
        Due.is("of nothing", x.struck(), 0);
        int[] on = {1, 0, 1, 1, 0};
        for (int value : on) {
            x.sender(0, value, 0, true);
            x.letters(0, 1);
            x.act(2, 0, 0);
        }
        int[] got = {0, 1, 0, 0};
        for (int value : got) {
            x.last(1);
            x.packets(0, value, 1);
            x.act(1, 0, value);
        }
        // 1 0 1 1 0 and 0 1 0 0: 0 1 0 is common, so two and one are struck out.
        Due.is("struck", x.struck(), 3);
        for (int i = 0; i < on.length; i++) {
            Due.is("row(0," + i + ")", x.row(0, i), on[i]);
        }
        for (int i = 0; i < got.length; i++) {
            Due.is("row(1," + i + ")", x.row(1, i), got[i]);
        }
        Due.is("row(0,NONE)", x.row(0, NONE), 5);
        Due.is("row(1,NONE)", x.row(1, NONE), 4);
        Due.is("row(1,4)", x.row(1, 4), NONE);
        Due.is("row(0,-2)", x.row(0, -2), NONE);
        Due.is("row(2,NONE)", x.row(2, NONE), NONE);
        Due.is("row(-1,0)", x.row(-1, 0), NONE);
        x.set(1, 2);
        Due.is("empty by set()", x.row(0, NONE) + x.row(1, NONE) + x.struck(), 0);
        latestForty();
    }

    private static void latestForty() {
        HealLink x = link(1, 2, 1, 1);
        for (int i = 0; i < 45; i++) {
            x.sender(0, i == 4 || i == 5 || i == 44 ? 1 : 0, 0, true);
            x.letters(0, 1);
            x.act(2, 0, 0);
        }
        Due.is("forty", x.row(0, NONE), 40);
        Due.is("the eldest left", x.row(0, 0), 1);
        Due.is("the next", x.row(0, 1), 0);
        Due.is("the latest", x.row(0, 39), 1);
        Due.is("row(0,40)", x.row(0, 40), NONE);
        Due.is("all forty struck", x.struck(), 40);
        Due.is("all counted", x.count(5), 45);
    }

    // Promises 27 and 28
    private static void feedAndEnd() {
        HealLink x = link(1, 2, 1, 1);
        for (int i = 1; i <= 11; i++) {
            Due.is("feed", x.feed(-1, 0, i), 24 * i);
        }
        Due.is("feed beyond 264", x.feed(0, 0, 0), NONE);
        Due.is("none come", x.of(12), 264);
        Due.is("end(265)", x.end(265), NONE);
        Due.is("end(-1)", x.end(-1), NONE);
        Due.is("end(264)", x.end(264), 264);
        Due.is("end(241)", x.end(241), 241);
        Due.is("feed beyond", x.feed(0, 0, 0), NONE);
        Due.is("end(240)", x.end(240), 240);
        Due.is("feed", x.feed(0, 0, 0), 264);
        Due.is("end(0)", x.end(0), 0);
        Due.is("end(1)", x.end(1), NONE);
        // "send;" in the first bytes, the highest first.
        Due.is("feed", x.feed(0x73656E643B202020L, 0x2020202020202020L, 0x202020202020203BL), 24);
        Due.is("the last byte is a ;", x.script(), -2 - (8 * 23 + 1));
        x.feed(0x73656E643B202020L, 0x2020202020202020L, 0x202020202020203BL);
        x.end(23);
        Due.is("without it", x.script(), 1);
    }

    // Promise 29
    private static void scriptDone() {
        HealLink x = link(1, 2, 1, 1);
        Due.is("empty", x.script(), 0);
        Due.is("blanks", script(x, "   "), 0);
        Due.is("one of each", script(x, "send;arrive 0 0;come 0;send;lose 1 0;packets;"), -2 - (8 * 37 + 1));
        Due.is("nothing is done", x.count(0), 0);
        Due.is("TAPE empty", x.of(12), 0);
        Due.is("one of each", script(x, "send;arrive 0 0;drop 0;send;lose 0 0;send;clear 9;"), 7);
        Due.is("lost", x.count(6), 2);
        Due.is("GOOD", x.count(1), 1);
        Due.is("with blanks", script(x, " again 02 [ send ; arrive 0 0 ; ] ; "), 4);
        Due.is("without", script(x, "again2[send;arrive0 00;];"), 4);
        Due.is("none in it", script(x, "again 30[];again 0[send;];"), 0);
        Due.is("four open", script(x, "again 2[again 2[again 2[again 2[send;];];];];"), 16);
        Due.is("one after the other", script(x, "again 1[send;];again 1[send;];"), 2);
        Due.is("30 times 20", script(x, "again 30[again 20[send;];];"), 600);
        Due.is("600 at most", script(x, "again 30[again 30[send;];];send;"), 600);
        x.packets(0, 0, 0);
        Due.is("600 in clear, too",
            script(x, "again 30[again 19[send;];];again 29[send;];send;clear 9;send;"), 600);
        Due.is("the PACKET stays", x.of(5), 1);
        HealLink y = link(2, 2, 1, 1);
        y.packets(1, 0, 1);
        y.packets(0, 1, 1);
        Due.is("the first is lost", script(y, "clear 1;"), 1);
        Due.is("by LABEL, then VALUE", kindOf(y, 1, 0, 1), 1);
        y.packets(1, 1, 1);
        Due.is("as long as there is one", script(y, "clear 09;clear 9;send;"), 3);
        HealLink z = link(2, 2, 1, 1);
        Due.is("clear ends at 600", script(z, "again 20[again 29[send;];];again 19[send;];clear 9;"), 600);
        Due.is("so one of two is left", z.of(5), 1);
        Due.is("much of nothing", script(y, "again 30[again 30[again 30[again 30[clear 1;];];];];"), 1);
    }

    private static void scriptStops() {
        HealLink x = link(1, 2, 1, 1);
        Due.is("not there", script(x, "send;come 0;send;"), 1);
        Due.is("not there, in again", script(x, "again 3[again 2[arrive 0 0;];];send;"), 1);
        Due.is("ACTS", x.count(0), 2);
        Due.is("lose of none", script(x, "lose 0 0;send;"), 0);
        Due.is("drop of another", script(x, "drop 1;send;"), 0);
        feed(x, " ".repeat(239) + ";");
        Due.is("240 bytes are read", x.script(), -2 - (8 * 239 + 1));
        feed(x, " ".repeat(240));
        Due.is("240 blanks", x.script(), 0);
        feed(x, " ".repeat(241));
        Due.is("more than 240", x.script(), NONE);
        Due.is("TAPE empty", x.of(12), 0);
    }

    private static void fault(String text, int place, int kind) {
        HealLink x = new HealLink();
        Due.is("script \"" + text + "\"", script(x, text), -2 - (8 * place + kind));
        Due.is("nothing is done", x.count(0), 0);
    }

    private static void scriptFaults() {
        fault("send", 4, 1);
        fault("send  ", 6, 1);
        fault("send;;", 5, 1);
        fault("send;sent;", 5, 1);
        fault("sendx;", 0, 1);
        fault("sendz;", 0, 1);
        fault("asend;", 0, 1);
        fault("send`;", 4, 1);
        fault("send{;", 4, 1);
        fault("come 0/;", 6, 1);
        fault("come 0:;", 6, 1);
        fault("Send;", 0, 1);
        fault("send 1;", 5, 1);
        fault("send;\t", 5, 1);
        fault("send;\u00e9", 5, 1);
        fault("send;\u0000", 5, 1);
        fault("1", 0, 1);
        fault("arrive", 6, 1);
        fault("arrive ;", 7, 1);
        fault("arrive 1;", 8, 1);
        fault("arrive 3 0;", 7, 2);
        fault("arrive 2 2;", 9, 2);
        fault("arrive 100 0;", 7, 2);
        fault("arrive 000 0;", 7, 2);
        fault("arrive 3 x;", 7, 2);
        fault("arrive 10;", 7, 2);
        fault("arrive 1 0 0;", 11, 1);
        fault("come 03;", 5, 2);
        fault("come -1;", 5, 1);
        fault("come 1 1;", 7, 1);
        fault("lose 1 5;", 7, 2);
        fault("drop 99;", 5, 2);
        fault("drop send;", 5, 1);
        fault("clear 0;", 6, 2);
        fault("clear 10;", 6, 2);
        fault("clear 99999999999999999999;", 6, 2);
        fault("again 31[];", 6, 2);
        fault("again [];", 6, 1);
        fault("again 1;", 7, 1);
        fault("again 1[send;", 13, 1);
        fault("again 1[send];", 12, 1);
        fault("again 1[send;]", 14, 1);
        fault("again 1[send;]]", 14, 1);
        fault("];", 0, 1);
        fault("again 1[];];", 10, 1);
        fault("again 1[again 1[again 1[again 1[send;again 1[];];];];];", 37, 3);
        fault("again 1[again 1[again 1[again 1[again 99", 32, 3);
        fault("again 1[again 1[again 1[again 99[again 1[", 30, 2);
        fault("send;send;arrive 1 1;nothing", 21, 1);
    }

    // Promises 30 and 31
    private static void imageAndBack() {
        HealLink x = link(2, 3, 3, 3);
        Due.is("back() of none", x.back(), false);
        x.sender(1, 1, 2, true);
        x.last(0);
        x.seen(2, 1, 2);
        x.packets(1, 0, 2);
        x.letters(2, 1);
        x.queue(5, 3);
        Due.is("image()", x.image(), true);
        x.run(100, 3, true);
        int[] counts = new int[8];
        for (int what = 0; what < 8; what++) {
            counts[what] = x.count(what);
        }
        int rows = 100 * x.row(0, NONE) + x.row(1, NONE);
        feed(x, "send;");
        Due.is("back()", x.back(), true);
        state("back", x, 1, 1, 2, 1, 0, 2, 1, 3, 2, 3, 3, 3, 5);
        Due.is("SEEN", kindOf(x, 2, 1, 0), 2);
        Due.is("PACKETS", kindOf(x, 1, 0, 1), 2);
        Due.is("LETTERS", kindOf(x, 2, 0, 2), 1);
        Due.is("queued(1)", queuedOf(x, 1), 0);
        Due.is("queued(2)", queuedOf(x, 2), 1);
        for (int what = 0; what < 8; what++) {
            Due.is("what is counted stays", x.count(what), counts[what]);
        }
        Due.is("rows stay", 100 * x.row(0, NONE) + x.row(1, NONE), rows);
        x.sender(0, 0, 0, false);
        Due.is("back() again", x.back(), true);
        Due.is("as kept", x.of(0), 1);
        x.last(2);
        x.image();
        x.last(1);
        x.back();
        Due.is("the latest image", x.of(4), 2);
        x.set(0, 2);
        Due.is("no image behind set()", x.back(), false);
    }
}
