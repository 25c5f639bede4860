import java.util.function.ToLongFunction;

/**
 * Each sentence about all that can come (Terms 2., promises 16 to 24): the last case that the
 * document allows, and the first one beyond it. What is too much to count by hand, the Model counts.
 */
public final class SearchBoundaryTest extends Links {
    private static final int MIN = Integer.MIN_VALUE;
    private static final int MAX = Integer.MAX_VALUE;
    private static final int ENDLESS = -2;
    private static final int UNKNOWN = -3;
    private static final int NO_WAY = -2;

    /** CAPACITY, LABELS, ACKS and COPIES WANTED, and what every() tells from 0 to 9: the Model says the same. */
    private static final String KNOWN_EVERY = "1 2 1 1: 3 240 0 0 0 0 0 1 1 0; 1 2 1 2: -2 3840 0 0 0 0 0 0 0 0; "
        + "1 2 2 1: 3 480 0 0 1 0 0 1 1 0; 1 2 3 1: 3 720 0 0 2 0 0 1 1 0; 1 2 4 1: 3 960 0 0 3 0 0 1 1 0; "
        + "1 2 5 1: 3 1200 0 0 4 0 0 1 1 0; 1 2 6 1: 3 1440 0 0 5 0 0 1 1 0; 1 2 7 1: 3 1680 0 0 6 0 0 1 1 0; "
        + "1 3 1 1: 3 1008 0 0 0 0 0 1 1 0; 1 3 2 1: 3 2016 0 0 1 0 0 1 1 0; 1 3 3 1: 3 3024 0 0 2 0 0 1 1 0; "
        + "1 3 4 1: 3 4032 0 0 3 0 0 1 1 0; 1 3 5 1: 3 5040 0 0 4 0 0 1 1 0; 1 4 1 1: 3 2880 0 0 0 0 0 1 1 0; "
        + "1 4 2 1: 3 5760 0 0 1 0 0 1 1 0; 2 2 1 1: -2 1440 0 0 0 0 0 0 0 0; 2 2 2 1: -2 2880 0 0 0 0 0 0 0 0; "
        + "2 2 3 1: -2 4320 0 0 0 0 0 0 0 0; 2 2 4 1: -2 5760 0 0 0 0 0 0 0 0";

    private SearchBoundaryTest() {
    }

    public static void main(String[] args) {
        mostStates();
        reached();
        worst();
        soonest();
        way();
        wayAsPossible();
        barrenAndSteps();
        odds();
        enough();
        every();
        hardest();
        questions();
        Due.close("SearchBoundaryTest");
    }

    /** A link and a Model that are told the same. */
    private static final class Pair {
        final HealLink link;
        final Model model = new Model();

        Pair(int capacity, int labels, int acks, int copies) {
            link = link(capacity, labels, acks, copies);
            model.set(0, capacity);
            model.set(1, labels);
            model.set(2, acks);
            model.set(3, copies);
        }

        Pair sender(int label, int value, int acks, boolean taken) {
            Due.is("sender()", link.sender(label, value, acks, taken), model.sender(label, value, acks, taken));
            return this;
        }

        Pair last(int label) {
            Due.is("last()", link.last(label), model.last(label));
            return this;
        }

        Pair seen(int label, int value, int n) {
            Due.is("seen()", link.seen(label, value, n), model.seen(label, value, n));
            return this;
        }

        Pair packets(int label, int value, int n) {
            Due.is("packets()", link.packets(label, value, n), model.packets(label, value, n));
            return this;
        }

        Pair letters(int label, int n) {
            Due.is("letters()", link.letters(label, n), model.letters(label, n));
            return this;
        }

        void enough(int want) {
            Due.is("the Model's enough()", model.enough(), want);
            Due.is("enough()", link.enough(), want);
        }
    }

    private static Pair justKnown(int which) {
        switch (which) {
            case 0:
                return new Pair(1, 4, 3, 4).sender(2, 1, 0, true);
            case 1:
                return new Pair(2, 2, 5, 2).sender(1, 1, 3, true).last(0).packets(0, 1, 1).letters(1, 1);
            case 2:
                return new Pair(2, 2, 1, 3).sender(1, 0, 0, false).last(0).seen(1, 1, 1).seen(0, 0, 2).seen(1, 0, 1)
                    .letters(1, 1).letters(0, 1);
            default:
                return new Pair(2, 2, 7, 3).sender(1, 1, 3, false).seen(1, 0, 2).seen(0, 0, 1).packets(0, 1, 2)
                    .letters(1, 2);
        }
    }

    private static Pair oneTooMany(int which) {
        switch (which) {
            case 0:
                return new Pair(1, 4, 3, 4).sender(0, 0, 1, false).seen(3, 1, 3).seen(1, 1, 3).seen(2, 0, 2)
                    .packets(0, 1, 1);
            case 1:
                return new Pair(2, 2, 5, 2).sender(0, 1, 4, true).last(0).seen(1, 1, 1).packets(1, 0, 2).letters(1, 2);
            case 2:
                return new Pair(2, 2, 4, 2).sender(0, 0, 3, true).seen(1, 1, 1).packets(1, 0, 1).packets(1, 1, 1)
                    .letters(0, 1);
            default:
                return new Pair(2, 2, 7, 3).sender(1, 0, 6, false).seen(1, 0, 2).seen(1, 1, 1).seen(0, 0, 1)
                    .packets(0, 1, 1).packets(1, 1, 1).letters(0, 2);
        }
    }

    private static void mostStates() {
        Due.sentence("6000 REACHED STATES are known", () -> {
            for (int which = 0; which < 4; which++) {
                Pair p = justKnown(which);
                Due.is("reached()", p.link.reached(), 6000);
                Due.is("worst()", p.link.worst(), p.model.worst());
                Due.is("soonest()", p.link.soonest(), p.model.soonest());
                Due.is("way(0, 0)", p.link.way(0, 0), p.model.way(0, 0));
                Due.is("barren()", p.link.barren(), p.model.barren());
                Due.is("steps()", p.link.steps(), p.model.steps());
                Due.is("odds(40)", p.link.odds(40), p.model.odds(40));
            }
        });
        // Each is asked of a link of its own, so that none leans on what another has found.
        beyond("reached()", HealLink::reached);
        beyond("worst()", HealLink::worst);
        beyond("soonest()", HealLink::soonest);
        beyond("way(0, 0)", x -> x.way(0, 0));
        beyond("way(-1, 3)", x -> x.way(-1, 3));
        beyond("barren()", HealLink::barren);
        beyond("steps()", HealLink::steps);
        beyond("odds(1)", x -> x.odds(1));
        beyond("odds(40)", x -> x.odds(40));
        Due.sentence("If there would be more than 6000, all of 2. is UNKNOWN: as long as there would be", () -> {
            HealLink x = oneTooMany(0).link;
            Due.is("reached()", x.reached(), UNKNOWN);
            x.packets(0, 1, 0);
            x.seen(3, 1, 0);
            x.seen(1, 1, 0);
            x.seen(2, 0, 0);
            x.sender(2, 1, 0, true);
            Due.is("reached()", x.reached(), 6000);
            Due.is("soonest()", x.soonest(), 8);
            x.set(2, 2);
            Due.is("worst() where there are by far more", x.worst(), UNKNOWN);
            x.set(2, 4);
            Due.is("reached()", x.reached(), 480);
        });
    }

    private static void beyond(String call, ToLongFunction<HealLink> asked) {
        Due.sentence("If there would be more than 6000, all of 2. is UNKNOWN: " + call, () -> {
            for (int which = 0; which < 4; which++) {
                Due.is(call, asked.applyAsLong(oneTooMany(which).link), UNKNOWN);
            }
            Due.is(call + " of by far more", asked.applyAsLong(link(2, 4, 7, 4)), UNKNOWN);
        });
    }

    // Promise 16
    private static void reached() {
        Due.sentence("REACHED STATES: all that comes of the one that is now, and that itself", () -> {
            for (int labels = 2; labels <= 4; labels++) {
                for (int acks = 1; acks <= 7; acks++) {
                    Pair p = new Pair(1, labels, acks, 1);
                    Due.is("reached()", p.link.reached(), p.model.reached());
                    p.packets(labels - 1, 1, 1).letters(0, 1);
                    Due.is("reached()", p.link.reached(), p.model.reached());
                }
            }
        });
        Due.sentence("the one that is now (without QUEUE); whatever QUEUE", () -> {
            HealLink x = link(1, 2, 1, 1);
            int before = x.reached();
            for (int i = 0; i < 2; i++) {
                x.queue(i == 0 ? -1 : 0, 15);
                Due.is("reached()", x.reached(), before);
                Due.is("worst()", x.worst(), 0);
                Due.is("steps()", x.steps(), 2);
            }
        });
        Due.sentence("where the SENDER would GO ON there are two acts in a row, else one", () -> {
            for (int wanted = 1; wanted <= 7; wanted++) {
                HealLink x = link(1, 2, wanted, 1);
                x.letters(0, 1);
                x.sender(0, 0, wanted - 1, false);
                // SEND, twice COME, by which it is SKIPPED, LOSE.
                Due.is("odds(1), ACKS one less than WANTED", x.odds(1), Double.doubleToLongBits(0.0 + 0.25 + 0.25));
                if (wanted > 1) {
                    x.sender(0, 0, wanted - 2, false);
                    double third = 1.0 / 3;
                    Due.is("odds(1), two less", x.odds(1), Double.doubleToLongBits(0.0 + third + third + third));
                }
                x.sender(1, 0, wanted - 1, false);
                double third = 1.0 / 3;
                Due.is("odds(1), a LETTER of another LABEL", x.odds(1),
                    Double.doubleToLongBits(0.0 + third + third + third));
            }
        });
    }

    // Promise 17
    private static void worst() {
        Due.sentence("WORST: none", () -> {
            Due.is("worst()", new HealLink().worst(), 0);
            Due.is("worst()", link(1, 2, 1, 1).worst(), 0);
        });
        Due.sentence("WORST: how many BAD ones at most, each kind of them", () -> {
            HealLink x = link(1, 2, 1, 1);
            x.letters(0, 1);
            Due.is("worst(), an old LETTER", x.worst(), new Pair(1, 2, 1, 1).letters(0, 1).model.worst());
            x.sender(0, 0, 0, true);
            x.last(0);
            x.letters(0, 0);
            Due.is("worst(), TAKEN under LAST", x.worst(), 0);
            x.last(1);
            // DOUBLED by a PACKET that is SENT, and nothing behind it.
            Due.is("worst(), TAKEN under another", x.worst(), 1);
        });
        Due.sentence("WORST: as many as the Model finds, of all states with one old PACKET and LETTER", () -> {
            for (int kind = 0; kind < 4; kind++) {
                for (int label = 0; label < 2; label++) {
                    for (int last = 0; last < 2; last++) {
                        Pair p = new Pair(1, 2, 2, 2).last(last).packets(kind / 2, kind % 2, 1).letters(label, 1);
                        p.seen(1 - last, 0, 1);
                        Due.is("worst()", p.link.worst(), p.model.worst());
                    }
                }
            }
        });
        Due.sentence("WORST: ENDLESS, if any number", () -> {
            for (int copies = 2; copies <= 4; copies++) {
                Due.is("COPIES WANTED as many as ACKS", link(1, 2, copies, copies).worst(), 0);
                Due.is("one more", link(1, 2, copies - 1, copies).worst(), ENDLESS);
            }
            Due.is("CAPACITY 2", link(2, 2, 7, 1).worst(), ENDLESS);
        });
    }

    // Promise 18
    private static void soonest() {
        Due.sentence("SOONEST: NONE: never", () -> {
            Due.is("soonest()", link(1, 2, 1, 1).soonest(), NONE);
            Due.is("soonest()", new HealLink().soonest(), NONE);
        });
        Due.sentence("SOONEST: by one ACT", () -> {
            HealLink x = link(1, 3, 3, 1);
            x.packets(1, 0, 1);
            Due.is("a GHOST", x.soonest(), 1);
            x.packets(1, 0, 0);
            x.packets(0, 0, 1);
            x.sender(0, 0, 0, true);
            Due.is("DOUBLED", x.soonest(), 1);
            x.packets(0, 0, 0);
            x.sender(0, 0, 2, false);
            x.letters(0, 1);
            Due.is("SKIPPED", x.soonest(), 1);
        });
        Due.sentence("SOONEST: by two, three and more ACTS", () -> {
            HealLink x = link(1, 3, 3, 1);
            x.sender(0, 0, 0, true);
            Due.is("SEND, ARRIVE", x.soonest(), 2);
            Due.is("SEND, ARRIVE, COME", link(1, 3, 1, 2).soonest(), 3);
            Due.is("that twice", link(1, 3, 2, 3).soonest(), 6);
            Due.is("that three times", link(1, 2, 3, 4).soonest(), 9);
            Pair p = new Pair(1, 4, 3, 4).sender(0, 1, 0, true).last(0).seen(1, 0, 1).packets(1, 0, 1);
            Due.is("many", p.link.soonest(), p.model.soonest());
            Due.is("many", p.link.soonest(), 19);
        });
    }

    // Promise 19
    private static void way() {
        Due.sentence("way(): the i-th ACT (from 0); -2: none such", () -> {
            Pair p = new Pair(1, 4, 3, 4).sender(0, 1, 0, true).last(0).seen(1, 0, 1).packets(1, 0, 1);
            for (int what = 0; what < 3; what++) {
                for (int i = 0; i < 19; i++) {
                    Due.is("way(" + i + ", " + what + ")", p.link.way(i, what), p.model.way(i, what));
                }
                for (int i : new int[] {-1, -2, 19, 20, 6000, MIN, MAX}) {
                    Due.is("way(" + i + ", " + what + ")", p.link.way(i, what), NO_WAY);
                }
            }
        });
        Due.sentence("way(): what 0 to 2; -2: others", () -> {
            HealLink x = link(1, 2, 1, 1);
            x.packets(1, 0, 0);
            x.packets(0, 1, 1);
            int[] due = {1, 0, 1};
            for (int what = 0; what < 3; what++) {
                Due.is("way(0, " + what + ")", x.way(0, what), due[what]);
            }
            for (int what : new int[] {-1, 3, MIN, MAX}) {
                Due.is("way(0, " + what + ")", x.way(0, what), NO_WAY);
            }
        });
        Due.sentence("way(): -2 where there is never a BAD one", () -> {
            HealLink x = link(1, 2, 1, 1);
            for (int what = -1; what < 4; what++) {
                Due.is("way(0, " + what + ")", x.way(0, what), NO_WAY);
                Due.is("way(-1, " + what + ")", x.way(-1, what), NO_WAY);
            }
        });
    }

    private static void wayAsPossible() {
        Due.sentence("WAY: the first act that leads to it soonest", () -> {
            HealLink x = link(2, 2, 1, 1);
            x.packets(1, 1, 1);
            x.packets(1, 0, 1);
            x.letters(0, 1);
            x.last(0);
            int[] due = {1, 1, 0};
            for (int what = 0; what < 3; what++) {
                Due.is("way(0, " + what + ")", x.way(0, what), due[what]);
            }
        });
        Due.sentence("way(): as of possible(): of SEND, LETTERS NONE", () -> {
            HealLink x = link(1, 3, 1, 2);
            int[][] due = {{0, NONE, NONE}, {1, 0, 0}, {2, 0, NONE}};
            for (int i = 0; i < 3; i++) {
                for (int what = 0; what < 3; what++) {
                    Due.is("way(" + i + ", " + what + ")", x.way(i, what), due[i][what]);
                }
            }
            Due.is("way(3, 0)", x.way(3, 0), NO_WAY);
        });
        Due.sentence("way(): 100 more for VALUE 1 of its next message, none for VALUE 0, whatever QUEUE", () -> {
            HealLink x = link(1, 2, 2, 2);
            x.sender(0, 0, 1, true);
            x.last(0);
            x.packets(1, 0, 1);
            x.letters(0, 1);
            Due.is("by VALUE 1 alone: way(0, 0)", x.way(0, 0), 102);
            Due.is("way(0, 1)", x.way(0, 1), 0);
            Due.is("way(0, 2)", x.way(0, 2), NONE);
            x.queue(0, 3);
            Due.is("whatever QUEUE: way(0, 0)", x.way(0, 0), 102);
            x.packets(1, 0, 0);
            x.packets(1, 1, 1);
            Due.is("by VALUE 0 alone: way(0, 0)", x.way(0, 0), 2);
            x.queue(-1, 3);
            x.sender(0, 0, 1, false);
            Due.is("by either: way(0, 0)", x.way(0, 0), 2);
        });
    }

    // Promises 20 and 21
    private static void barrenAndSteps() {
        Due.sentence("BARREN: from no REACHED STATE nothing GOOD can come any more", () -> {
            for (int labels = 2; labels <= 4; labels++) {
                for (int copies = 1; copies <= 4; copies++) {
                    HealLink x = link(1, labels, copies, copies);
                    Due.is("barren()", x.barren(), x.reached() == UNKNOWN ? UNKNOWN : 0);
                }
            }
            HealLink y = link(2, 2, 2, 1);
            y.last(0);
            y.sender(0, 1, 1, true);
            Due.is("barren()", y.barren(), 0);
        });
        Due.sentence("STEPS to GOOD: by one ACT", () -> {
            for (int copies = 1; copies <= 4; copies++) {
                HealLink x = link(1, 2, 7, copies);
                x.packets(0, 0, 1);
                x.seen(0, 0, copies - 1);
                Due.is("steps()", x.steps(), 1);
            }
        });
        Due.sentence("STEPS to GOOD: SEND and ARRIVE for each of the COPIES that are not SEEN", () -> {
            for (int copies = 1; copies <= 4; copies++) {
                HealLink x = link(1, 2, 7, copies);
                for (int seen = 0; seen < copies; seen++) {
                    x.seen(0, 0, seen);
                    Due.is("steps()", x.steps(), 2 * (copies - seen));
                }
            }
        });
        Due.sentence("STEPS to GOOD: LAST is the SENDER's LABEL, or it is TAKEN: first it GOES ON", () -> {
            for (int acks = 1; acks <= 7; acks++) {
                HealLink x = link(1, 2, acks, 1);
                x.last(0);
                Due.is("steps()", x.steps(), 3 * acks + 2);
                x.sender(0, 0, 0, true);
                Due.is("steps()", x.steps(), 3 * acks + 2);
                x.sender(0, 0, acks - 1, true);
                x.letters(0, 1);
                Due.is("steps()", x.steps(), 3);
            }
        });
    }

    // Promise 22
    private static void odds() {
        Due.sentence("odds(): k (1 to 40); NONE: others", () -> {
            Pair p = new Pair(2, 2, 1, 1).packets(0, 1, 1);
            for (int k = 1; k <= 40; k++) {
                Due.is("odds(" + k + ")", p.link.odds(k), p.model.odds(k));
            }
            for (int k : new int[] {0, 41, -1, MIN, MAX}) {
                Due.is("odds(" + k + ")", p.link.odds(k), NONE);
                Due.is("odds(" + k + ") where 2. is UNKNOWN", link(2, 4, 1, 1).odds(k), NONE);
            }
        });
        Due.sentence("ODDS: p is 1 for state 0; unless something BAD comes of it", () -> {
            HealLink x = link(1, 2, 1, 1);
            Due.is("odds(1), nothing BAD", x.odds(1), Double.doubleToLongBits(1.0));
            x.packets(0, 1, 1);
            double third = 1.0 / 3;
            Due.is("odds(1), a GHOST of three ACTS", x.odds(1), Double.doubleToLongBits(0.0 + third + third));
            x.packets(0, 1, 0);
            x.packets(0, 0, 1);
            x.sender(0, 0, 0, true);
            Due.is("odds(1), DOUBLED of three ACTS", x.odds(1), Double.doubleToLongBits(0.0 + third + third));
            x.letters(1, 1);
            double fifth = 1.0 / 5;
            Due.is("odds(1), of five ACTS", x.odds(1), Double.doubleToLongBits(0.0 + fifth + fifth + fifth + fifth));
        });
        Due.sentence("ODDS: added state by state, to the last bit", () -> {
            for (int which = 0; which < 6; which++) {
                Pair p = new Pair(1 + which % 2, 2 + which / 4, 1 + which / 3, 1 + which % 2).last(which % 2);
                p.packets(which % 2, 1, 1).letters(which / 3, 1).sender(1, which % 2, 0, which > 2);
                for (int k = 1; k <= 40; k += 13) {
                    Due.is("odds(" + k + ")", p.link.odds(k), p.model.odds(k));
                }
            }
        });
    }

    // Promise 23
    private static void enough() {
        Due.sentence("ENOUGH: the least ACKS WANTED (from 1 on)", () -> {
            for (int copies = 1; copies <= 4; copies++) {
                for (int wanted = 1; wanted <= 7; wanted += 3) {
                    HealLink x = link(1, 2, wanted, copies);
                    Due.is("enough(), COPIES WANTED " + copies, x.enough(), copies);
                    Due.is("ACKS WANTED stay: of(10)", x.of(10), wanted);
                }
                for (int acks = 1; acks <= copies; acks++) {
                    Due.is("worst()", link(1, 2, acks, copies).worst(), acks < copies ? ENDLESS : 0);
                }
            }
        });
        Due.sentence("ENOUGH: all else as it is: asked again behind each set()", () -> {
            HealLink x = link(1, 2, 7, 1);
            for (int copies = 1; copies <= 4; copies++) {
                x.set(3, copies);
                Due.is("enough()", x.enough(), copies);
                Due.is("enough() again", x.enough(), copies);
                x.set(0, 2);
                Due.is("enough() at CAPACITY 2", x.enough(), copies == 1 ? NONE : copies == 2 ? 4 : UNKNOWN);
                x.set(0, 1);
                Due.is("enough() at CAPACITY 1", x.enough(), copies);
            }
        });
        Due.sentence("ENOUGH: (up to 7); NONE: by none", () -> {
            new Pair(2, 2, 1, 1).enough(NONE);
            new Pair(2, 2, 7, 1).sender(1, 0, 6, true).enough(NONE);
            new Pair(2, 3, 7, 1).enough(-3);
            for (int acks = 1; acks <= 7; acks++) {
                Due.is("worst() by " + acks, link(2, 2, acks, 1).worst(), ENDLESS);
            }
        });
        Due.sentence("ENOUGH: with SENDER's ACKS as they are, if less, else 0", () -> {
            new Pair(2, 2, 7, 2).sender(0, 1, 4, false).seen(0, 0, 1).packets(1, 0, 2).letters(0, 2).enough(4);
            new Pair(2, 2, 7, 2).sender(0, 0, 3, false).packets(0, 1, 1).letters(1, 2).enough(UNKNOWN);
            new Pair(2, 2, 7, 2).sender(0, 1, 2, false).letters(0, 2).enough(6);
            new Pair(2, 2, 7, 2).sender(0, 1, 5, false).seen(1, 1, 1).packets(1, 1, 1).enough(4);
            for (int acks = 0; acks < 7; acks++) {
                Pair p = new Pair(2, 2, 7, 2).sender(0, 1, acks, false).letters(0, 2);
                p.enough(p.model.enough());
                Due.is("SENDER's ACKS stay: of(2)", p.link.of(2), acks);
            }
        });
        Due.sentence("enough(): 6000 REACHED STATES are known", () ->
            new Pair(2, 2, 4, 2).sender(1, 1, 3, true).last(0).packets(0, 0, 1).letters(1, 1).enough(6));
        Due.sentence("enough(): UNKNOWN: that of the least such number not found to be ENDLESS", () -> {
            Pair p = new Pair(2, 2, 7, 2).sender(1, 0, 3, true).packets(0, 0, 2).letters(0, 1);
            p.enough(UNKNOWN);
            // By 5 there are 6001.
            new Pair(2, 2, 5, 2).sender(1, 1, 4, true).seen(0, 1, 1).packets(0, 0, 2).letters(0, 2).enough(UNKNOWN);
            // By 1 there are too many, though by 4 it HEALS.
            HealLink x = link(1, 4, 4, 4);
            Due.is("enough()", x.enough(), UNKNOWN);
            Due.is("worst()", x.worst(), 0);
            // By 2 it HEALS, whatever is UNKNOWN by 7 or as it is.
            Due.is("enough()", link(1, 4, 2, 1).enough(), 1);
        });
    }

    // Promise 24
    private static void every() {
        Due.sentence("every(): how many states there are; more than 6000 of them: UNKNOWN", () -> {
            int known = 0;
            for (int i = 0; i < 168; i++) {
                int capacity = 1 + i % 2;
                int labels = 2 + i / 2 % 3;
                int acks = 1 + i / 6 % 7;
                int copies = 1 + i / 42;
                long all = allStates(capacity, labels, acks, copies);
                HealLink x = link(capacity, labels, acks, copies);
                String of = " of " + capacity + ", " + labels + ", " + acks + ", " + copies;
                Due.is("every(1)" + of, x.every(1), all > 6000 ? UNKNOWN : all);
                for (int what = 0; what < 10 && all > 6000; what++) {
                    Due.is("every(" + what + ")" + of, x.every(what), UNKNOWN);
                }
                known += all > 6000 ? 0 : 1;
            }
            Due.is("settings that are known", known, 19);
        });
        Due.sentence("every(): 5760 states are known, 6048 are not", () -> {
            Due.is("every(1)", link(2, 2, 4, 1).every(1), 5760);
            Due.is("every(1)", link(1, 4, 2, 1).every(1), 5760);
            Due.is("every(1)", link(1, 3, 5, 1).every(1), 5040);
            Due.is("every(1) of 6048", link(1, 3, 6, 1).every(1), UNKNOWN);
            Due.is("every(0) of 6048", link(1, 3, 6, 1).every(0), UNKNOWN);
        });
        Due.sentence("every(): what 0 to 9; NONE: others", () -> {
            for (int what : new int[] {-1, 10, MIN, MAX}) {
                Due.is("every(" + what + ")", link(1, 2, 1, 1).every(what), NONE);
                Due.is("every(" + what + ") of too many", link(2, 4, 7, 4).every(what), NONE);
            }
            Due.is("every(9)", link(1, 2, 1, 1).every(9), 0);
        });
    }

    private static void hardest() {
        Due.sentence("EVERY: the greatest WORST; the HARDEST is the first that has it", () -> {
            int[][] settings = {{1, 2, 1, 1}, {1, 2, 7, 1}, {1, 2, 1, 2}, {1, 3, 1, 1}, {1, 3, 5, 1}, {1, 4, 1, 1},
                {1, 4, 2, 1}, {2, 2, 1, 1}, {2, 2, 4, 1}};
            for (int[] s : settings) {
                Pair p = new Pair(s[0], s[1], s[2], s[3]);
                for (int what = 0; what < 10; what++) {
                    Due.is("every(" + what + ")", p.link.every(what), p.model.every(what));
                }
            }
        });
        Due.sentence("EVERY: of each setting by which there are no more than 6000 states", () -> {
            for (String row : KNOWN_EVERY.split("; ")) {
                String[] parts = row.split(": ");
                String[] setting = parts[0].split(" ");
                HealLink x = link(Integer.parseInt(setting[0]), Integer.parseInt(setting[1]),
                    Integer.parseInt(setting[2]), Integer.parseInt(setting[3]));
                x.reached();
                StringBuilder answers = new StringBuilder();
                for (int what = 0; what < 10; what++) {
                    answers.append(what > 0 ? " " : "").append(x.every(what));
                }
                Due.is("every() of " + parts[0] + ", behind reached(),", answers.toString(), parts[1]);
            }
        });
        Due.sentence("EVERY: of all states by CAPACITY, LABELS, ACKS and COPIES, whatever is now", () -> {
            HealLink x = link(1, 2, 2, 1);
            int before = x.every(0);
            int hardest = x.every(2) * 1000 + x.every(3) * 100 + x.every(4) * 10 + x.every(6);
            x.sender(1, 1, 1, true);
            x.last(0);
            x.packets(1, 1, 1);
            x.queue(7, 3);
            Due.is("every(0)", x.every(0), before);
            Due.is("the HARDEST", x.every(2) * 1000 + x.every(3) * 100 + x.every(4) * 10 + x.every(6), hardest);
            x.set(2, 3);
            Due.is("every(1) behind set()", x.every(1), 720);
        });
    }

    /** As Terms 1. tell it: each part by itself, and PACKETS, LETTERS so many in all. */
    private static long allStates(int capacity, int labels, int acks, int copies) {
        long seen = 1;
        for (int kind = 0; kind < 2 * labels; kind++) {
            seen *= copies;
        }
        int kinds = 2 * labels;
        int packets = capacity == 1 ? 1 + kinds : 1 + kinds + kinds * (kinds + 1) / 2;
        int letters = capacity == 1 ? 1 + labels : 1 + labels + labels * (labels + 1) / 2;
        return 2L * labels * 2 * acks * labels * seen * packets * letters;
    }

    private static void questions() {
        Due.sentence("(Questions change nothing.)", () -> {
            for (int which = 0; which < 4; which++) {
                HealLink x = justKnown(which).link;
                x.queue(5, 3);
                feed(x, "send;");
                String before = everything(x);
                for (int i = 0; i < QUESTIONS; i++) {
                    answer(x, i);
                }
                Due.is("all", everything(x), before);
                Due.is("back()", x.back(), false);
            }
        });
        Due.sentence("(Questions change nothing.): each answers the same behind each other one", () -> {
            for (int which = 0; which < 3; which++) {
                String[] alone = new String[QUESTIONS];
                for (int i = 0; i < QUESTIONS; i++) {
                    alone[i] = answer(small(which), i);
                }
                HealLink x = small(which);
                for (int first = 0; first < QUESTIONS; first++) {
                    for (int then = 0; then < QUESTIONS; then++) {
                        // Another state between, so that none answers what it has kept.
                        x.last(1);
                        answer(x, first);
                        x.last(0);
                        answer(x, first);
                        Due.is("question " + then + " behind " + first, answer(x, then), alone[then]);
                        Due.is("question " + first + " behind " + then, answer(x, first), alone[first]);
                    }
                }
            }
        });
    }

    private static final int QUESTIONS = 11;

    private static HealLink small(int which) {
        HealLink x = which == 0 ? link(1, 2, 1, 2) : which == 1 ? link(2, 2, 2, 1) : link(1, 2, 5, 1);
        x.packets(0, 1, 1);
        x.last(0);
        return x;
    }

    private static String answer(HealLink x, int which) {
        switch (which) {
            case 0: return "" + x.reached();
            case 1: return "" + x.worst();
            case 2: return "" + x.soonest();
            case 3: return x.way(0, 0) + " " + x.way(0, 1) + " " + x.way(0, 2);
            case 4: return "" + x.barren();
            case 5: return "" + x.steps();
            case 6: return "" + x.odds(40);
            case 7: return "" + x.enough();
            case 8: return x.every(0) + " " + x.every(1) + " " + x.every(7);
            case 9: return "" + x.struck();
            default: return "" + x.possible(NONE, 0);
        }
    }
}
