import java.util.Random;

/**
 * Each of the 168 settings: every question of Terms 2., asked of the state at first and of states told
 * by hand, compared with the Model. SettingsTest STATES SEED asks of more states, or of others.
 */
public final class SettingsTest extends Links {
    private static final int STATES = 2;

    private final Random random;
    private final HealLink link = new HealLink();
    private final Model model = new Model();
    private final String settings;

    private SettingsTest(long seed, int capacity, int labels, int acks, int copies) {
        random = new Random(seed);
        settings = capacity + "/" + labels + "/" + acks + "/" + copies + ", ";
        int[] wanted = {capacity, labels, acks, copies};
        for (int what = 0; what < wanted.length; what++) {
            due("set(" + what + ", " + wanted[what] + ")", link.set(what, wanted[what]),
                model.set(what, wanted[what]));
        }
    }

    public static void main(String[] args) {
        int states = args.length > 0 ? Integer.parseInt(args[0]) : STATES;
        long seed = args.length > 1 ? Long.parseLong(args[1]) : 1;
        for (int capacity = 1; capacity <= 2; capacity++) {
            for (int labels = 2; labels <= 4; labels++) {
                for (int acks = 1; acks <= 7; acks++) {
                    for (int copies = 1; copies <= 4; copies++) {
                        seed++;
                        new SettingsTest(seed, capacity, labels, acks, copies).compare(states);
                    }
                }
            }
        }
        Due.close("SettingsTest");
    }

    private void due(String call, long got, long want) {
        Due.is(settings + call, got, want);
    }

    private void compare(int states) {
        for (int what = -1; what <= 10; what++) {
            due("every(" + what + ")", link.every(what), model.every(what));
        }
        ask("at first: ");
        for (int i = 0; i < states; i++) {
            tell();
            ask(told(link) + ": ");
        }
    }

    private void tell() {
        int label = random.nextInt(model.of(9));
        int value = random.nextInt(2);
        int acks = random.nextInt(model.of(10));
        boolean taken = random.nextBoolean();
        Due.is(settings + "sender", link.sender(label, value, acks, taken), model.sender(label, value, acks, taken));
        int last = random.nextInt(model.of(9));
        due("last(" + last + ")", link.last(last), model.last(last));
        for (int l = 0; l < model.of(9); l++) {
            for (int v = 0; v < 2; v++) {
                int seen = random.nextInt(model.of(11));
                due("seen(" + l + ", " + v + ", " + seen + ")", link.seen(l, v, seen), model.seen(l, v, seen));
                int packets = random.nextInt(3);
                due("packets(" + l + ", " + v + ", " + packets + ")", link.packets(l, v, packets),
                    model.packets(l, v, packets));
            }
            int letters = random.nextInt(3);
            due("letters(" + l + ", " + letters + ")", link.letters(l, letters), model.letters(l, letters));
        }
    }

    /** The questions that make the others' rows anew stand between them. */
    private void ask(String state) {
        due(state + "soonest()", link.soonest(), model.soonest());
        due(state + "worst()", link.worst(), model.worst());
        due(state + "enough()", link.enough(), model.enough());
        due(state + "reached()", link.reached(), model.reached());
        due(state + "barren()", link.barren(), model.barren());
        due(state + "steps()", link.steps(), model.steps());
        int k = 1 + random.nextInt(40);
        due(state + "odds(" + k + ")", link.odds(k), model.odds(k));
        due(state + "every(0)", link.every(0), model.every(0));
        for (int i = -1; i <= Math.min(model.soonest(), 12); i++) {
            for (int what = -1; what <= 3; what++) {
                due(state + "way(" + i + ", " + what + ")", link.way(i, what), model.way(i, what));
            }
        }
    }
}
