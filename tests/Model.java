import java.util.ArrayList;
import java.util.Arrays;
import java.util.HashMap;
import java.util.LinkedHashMap;
import java.util.List;
import java.util.Map;
import java.util.NoSuchElementException;

/** The document once more, as plainly and slowly as can be: what HealLink is compared with. */
final class Model {
    static final String[] ACT_WORDS = {"send", "arrive", "come", "lose", "drop"};

    /** A link without its QUEUE. */
    static final class State {
        int label;
        int value;
        int acks;
        boolean taken;
        int last;
        int[][] seen = new int[4][2];
        int[][] packets = new int[4][2];
        int[] letters = new int[4];

        State copy() {
            State s = new State();
            s.label = label;
            s.value = value;
            s.acks = acks;
            s.taken = taken;
            s.last = last;
            for (int i = 0; i < 4; i++) {
                s.seen[i] = seen[i].clone();
                s.packets[i] = packets[i].clone();
            }
            s.letters = letters.clone();
            return s;
        }

        /** Two states have the same key only if they are the same. */
        String key() {
            StringBuilder all = new StringBuilder(25);
            all.append((char) label).append((char) value).append((char) acks);
            all.append((char) (taken ? 1 : 0)).append((char) last);
            for (int i = 0; i < 4; i++) {
                all.append((char) seen[i][0]).append((char) seen[i][1]);
                all.append((char) packets[i][0]).append((char) packets[i][1]);
                all.append((char) letters[i]);
            }
            return all.toString();
        }

        int packetsInAll() {
            int n = 0;
            for (int[] row : packets) {
                n += row[0] + row[1];
            }
            return n;
        }

        int lettersInAll() {
            return Arrays.stream(letters).sum();
        }

        int seenInAll() {
            int n = 0;
            for (int[] row : seen) {
                n += row[0] + row[1];
            }
            return n;
        }
    }

    /** What an act does: the state behind it, what act() answers, what was lost. */
    static final class Outcome {
        State state;
        int answer;
        boolean packetLost;
        boolean letterLost;

        boolean bad() {
            return answer == 2 || answer == 3 || answer == 5;
        }
    }

    static final class Edge {
        int what;
        int label;
        int value;
        int told;
        int target;
        boolean bad;
        boolean good;
    }

    static final class Graph {
        List<State> states = new ArrayList<>();
        List<List<Edge>> edges = new ArrayList<>();
        Map<String, Integer> numbers = new HashMap<>();
    }

    int capacity = 1;
    int labels = 3;
    int acksWanted = 3;
    int copiesWanted = 2;
    State now;
    List<Integer> queue = new ArrayList<>();
    int[] counts = new int[8];
    List<Integer> finished = new ArrayList<>();
    List<Integer> delivered = new ArrayList<>();
    List<Integer> tape = new ArrayList<>();
    State keptState;
    List<Integer> keptQueue;

    Model() {
        startAnew();
    }

    private void startAnew() {
        now = new State();
        now.last = labels - 1;
        queue = new ArrayList<>();
        counts = new int[8];
        finished = new ArrayList<>();
        delivered = new ArrayList<>();
        keptState = null;
        keptQueue = null;
    }

    int set(int what, int v) {
        int old;
        if (what == 0 && v >= 1 && v <= 2) {
            old = capacity;
            capacity = v;
        } else if (what == 1 && v >= 2 && v <= 4) {
            old = labels;
            labels = v;
        } else if (what == 2 && v >= 1 && v <= 7) {
            old = acksWanted;
            acksWanted = v;
        } else if (what == 3 && v >= 1 && v <= 4) {
            old = copiesWanted;
            copiesWanted = v;
        } else {
            return -1;
        }
        startAnew();
        return old;
    }

    private boolean isLabel(int label) {
        return 0 <= label && label <= labels - 1;
    }

    private boolean isValue(int value) {
        return value == 0 || value == 1;
    }

    boolean sender(int label, int value, int acks, boolean taken) {
        if (!isLabel(label) || !isValue(value) || acks < 0 || acks > acksWanted - 1) {
            return false;
        }
        now.label = label;
        now.value = value;
        now.acks = acks;
        now.taken = taken;
        return true;
    }

    int last(int label) {
        if (!isLabel(label)) {
            return -1;
        }
        int was = now.last;
        now.last = label;
        return was;
    }

    int seen(int label, int value, int n) {
        if (!isLabel(label) || !isValue(value) || n < 0 || n > copiesWanted - 1) {
            return -1;
        }
        int was = now.seen[label][value];
        now.seen[label][value] = n;
        return was;
    }

    int packets(int label, int value, int n) {
        if (!isLabel(label) || !isValue(value) || n < 0 || n > capacity) {
            return -1;
        }
        int was = now.packets[label][value];
        if (now.packetsInAll() - was + n > capacity) {
            return -1;
        }
        now.packets[label][value] = n;
        return was;
    }

    int letters(int label, int n) {
        if (!isLabel(label) || n < 0 || n > capacity) {
            return -1;
        }
        int was = now.letters[label];
        if (now.lettersInAll() - was + n > capacity) {
            return -1;
        }
        now.letters[label] = n;
        return was;
    }

    int queue(int bits, int n) {
        if (n < 1 || n > 20 || queue.size() + n > 30) {
            return -1;
        }
        for (int i = 0; i < n; i++) {
            queue.add((bits >> i) & 1);
        }
        return queue.size();
    }

    Outcome outcome(State from, int what, int label, int value, int nextValue) {
        Outcome o = new Outcome();
        State s = from.copy();
        o.state = s;
        switch (what) {
            case 0:
                if (s.packetsInAll() == capacity) {
                    o.packetLost = true;
                } else {
                    s.packets[s.label][s.value]++;
                }
                break;
            case 1:
                s.packets[label][value]--;
                if (label != s.last) {
                    s.seen[label][value]++;
                    if (s.seen[label][value] == copiesWanted) {
                        s.last = label;
                        s.seen = new int[4][2];
                        if (label != s.label || value != s.value) {
                            o.answer = 2;
                        } else if (s.taken) {
                            o.answer = 3;
                        } else {
                            o.answer = 1;
                            s.taken = true;
                        }
                    }
                }
                if (s.lettersInAll() == capacity) {
                    o.letterLost = true;
                } else {
                    s.letters[label]++;
                }
                break;
            case 2:
                s.letters[label]--;
                if (label == s.label) {
                    s.acks++;
                    if (s.acks == acksWanted) {
                        o.answer = s.taken ? 4 : 5;
                        s.label = (s.label + 1) % labels;
                        s.acks = 0;
                        s.value = nextValue;
                        s.taken = false;
                    }
                }
                break;
            case 3:
                s.packets[label][value]--;
                o.packetLost = true;
                break;
            default:
                s.letters[label]--;
                o.letterLost = true;
                break;
        }
        return o;
    }

    /** Each act as what, label, value (-1 where it has none). */
    List<int[]> possibleActs(State s) {
        List<int[]> acts = new ArrayList<>();
        acts.add(new int[] {0, -1, -1});
        packetActs(acts, s, 1);
        letterActs(acts, s, 2);
        packetActs(acts, s, 3);
        letterActs(acts, s, 4);
        return acts;
    }

    private void packetActs(List<int[]> acts, State s, int what) {
        for (int label = 0; label < labels; label++) {
            for (int value = 0; value < 2; value++) {
                if (s.packets[label][value] > 0) {
                    acts.add(new int[] {what, label, value});
                }
            }
        }
    }

    private void letterActs(List<int[]> acts, State s, int what) {
        for (int label = 0; label < labels; label++) {
            if (s.letters[label] > 0) {
                acts.add(new int[] {what, label, -1});
            }
        }
    }

    private boolean isThere(int what, int label, int value) {
        if (what == 1 || what == 3) {
            return isLabel(label) && isValue(value) && now.packets[label][value] > 0;
        }
        if (what == 2 || what == 4) {
            return isLabel(label) && now.letters[label] > 0;
        }
        return what == 0;
    }

    int act(int what, int label, int value) {
        if (!isThere(what, label, value)) {
            return -1;
        }
        int before = now.value;
        Outcome o = outcome(now, what, label, value, queue.isEmpty() ? 0 : queue.get(0));
        now = o.state;
        counts[0]++;
        if (o.answer >= 1 && o.answer <= 3) {
            counts[o.answer]++;
            push(delivered, value);
        }
        if (o.answer >= 4) {
            counts[5]++;
            if (o.answer == 5) {
                counts[4]++;
            }
            push(finished, before);
            if (!queue.isEmpty()) {
                queue.remove(0);
            }
        }
        if (o.packetLost) {
            counts[6]++;
        }
        if (o.letterLost) {
            counts[7]++;
        }
        return o.answer;
    }

    private static void push(List<Integer> row, int value) {
        row.add(value);
        if (row.size() > 40) {
            row.remove(0);
        }
    }

    int run(int n, int seed, boolean lose) {
        if (n < 1 || n > 200) {
            return -1;
        }
        int bad = 0;
        int x = seed;
        for (int i = 0; i < n; i++) {
            x = x * 1103515245 + 12345;
            List<int[]> acts = new ArrayList<>();
            for (int[] a : possibleActs(now)) {
                if (lose || a[0] < 3) {
                    acts.add(a);
                }
            }
            int[] a = acts.get((x >>> 8) % acts.size());
            int answer = act(a[0], a[1], a[2]);
            if (answer == 2 || answer == 3 || answer == 5) {
                bad++;
            }
        }
        return bad;
    }

    int of(int what) {
        int[] all = {now.label, now.value, now.acks, now.taken ? 1 : 0, now.last,
            now.packetsInAll(), now.lettersInAll(), queue.size(), capacity, labels, acksWanted,
            copiesWanted, tape.size()};
        return what >= 0 && what < all.length ? all[what] : -1;
    }

    int kind(int label, int value, int what) {
        if (isLabel(label) && what == 2) {
            return now.letters[label];
        }
        if (isLabel(label) && isValue(value) && what == 0) {
            return now.seen[label][value];
        }
        if (isLabel(label) && isValue(value) && what == 1) {
            return now.packets[label][value];
        }
        throw new NoSuchElementException();
    }

    int queued(int i) {
        if (i < 0 || i >= queue.size()) {
            throw new NoSuchElementException();
        }
        return queue.get(i);
    }

    int count(int what) {
        return what >= 0 && what <= 7 ? counts[what] : -1;
    }

    int possible(int i, int what) {
        if (what != 0 && what != 1 && what != 2) {
            return -1;
        }
        List<int[]> acts = possibleActs(now);
        if (i == -1) {
            return acts.size();
        }
        return i >= 0 && i < acts.size() ? acts.get(i)[what] : -1;
    }

    private List<Edge> edgesOf(State s, List<State> targets) {
        List<Edge> edges = new ArrayList<>();
        for (int[] a : possibleActs(s)) {
            Outcome o = outcome(s, a[0], a[1], a[2], 0);
            int ways = o.answer >= 4 ? 2 : 1;
            for (int told = 0; told < ways; told++) {
                o = outcome(s, a[0], a[1], a[2], told);
                Edge e = new Edge();
                e.what = a[0];
                e.label = a[1];
                e.value = a[2];
                e.told = told;
                e.bad = o.bad();
                e.good = o.answer == 1;
                edges.add(e);
                targets.add(o.state);
            }
        }
        return edges;
    }

    /** The states reached from some, null if they are more than 6000. */
    private Graph graph(List<State> from) {
        Graph g = new Graph();
        for (State s : from) {
            if (g.numbers.putIfAbsent(s.key(), g.states.size()) == null) {
                g.states.add(s);
            }
        }
        for (int i = 0; i < g.states.size(); i++) {
            List<State> targets = new ArrayList<>();
            List<Edge> edges = edgesOf(g.states.get(i), targets);
            g.edges.add(edges);
            for (int j = 0; j < targets.size(); j++) {
                State t = targets.get(j);
                Integer number = g.numbers.get(t.key());
                if (number == null) {
                    number = g.states.size();
                    if (number == 6000) {
                        return null;
                    }
                    g.numbers.put(t.key(), number);
                    g.states.add(t);
                }
                edges.get(j).target = number;
            }
        }
        return g;
    }

    private Graph graphKept;
    private String graphKey;

    /** Kept as long as the same is asked for: nothing else is clever here. */
    private Graph reachedGraph() {
        String key = capacity + "/" + labels + "/" + acksWanted + "/" + copiesWanted + "/" + now.key();
        if (!key.equals(graphKey)) {
            graphKept = graph(List.of(now));
            graphKey = key;
        }
        return graphKept;
    }

    /** From which states an edge of some set can be walked. */
    private static boolean[] canReach(Graph g, boolean[][] edgeIn) {
        boolean[] can = new boolean[g.states.size()];
        boolean more = true;
        while (more) {
            more = false;
            for (int s = can.length - 1; s >= 0; s--) {
                List<Edge> edges = g.edges.get(s);
                for (int j = 0; j < edges.size() && !can[s]; j++) {
                    if (edgeIn[s][j] || can[edges.get(j).target]) {
                        can[s] = true;
                        more = true;
                    }
                }
            }
        }
        return can;
    }

    /** In round j: who can bring about j BAD ones; endless, where the rounds no longer shrink. */
    private static int[] worstOf(Graph g) {
        int[] worst = new int[g.states.size()];
        boolean[] before = new boolean[worst.length];
        Arrays.fill(before, true);
        for (int round = 1; ; round++) {
            boolean[][] in = new boolean[worst.length][];
            for (int s = 0; s < worst.length; s++) {
                List<Edge> edges = g.edges.get(s);
                in[s] = new boolean[edges.size()];
                for (int j = 0; j < edges.size(); j++) {
                    in[s][j] = edges.get(j).bad && before[edges.get(j).target];
                }
            }
            boolean[] can = canReach(g, in);
            boolean any = false;
            for (int s = 0; s < worst.length; s++) {
                if (can[s]) {
                    worst[s] = round;
                    any = true;
                }
            }
            if (!any) {
                return worst;
            }
            if (Arrays.equals(can, before)) {
                for (int s = 0; s < worst.length; s++) {
                    worst[s] = can[s] ? -2 : worst[s];
                }
                return worst;
            }
            before = can;
        }
    }

    /** By how many acts there can be something good (or bad); -1: never. */
    private static int[] distances(Graph g, boolean good) {
        int[] d = new int[g.states.size()];
        Arrays.fill(d, -1);
        boolean more = true;
        for (int round = 1; more; round++) {
            more = false;
            for (int s = 0; s < d.length; s++) {
                if (d[s] != -1) {
                    continue;
                }
                for (Edge e : g.edges.get(s)) {
                    boolean now = round == 1 && (good ? e.good : e.bad);
                    if (now || round > 1 && d[e.target] == round - 1) {
                        d[s] = round;
                        more = true;
                        break;
                    }
                }
            }
        }
        return d;
    }

    int reached() {
        Graph g = reachedGraph();
        return g == null ? -3 : g.states.size();
    }

    int worst() {
        Graph g = reachedGraph();
        return g == null ? -3 : worstOf(g)[0];
    }

    int soonest() {
        Graph g = reachedGraph();
        return g == null ? -3 : distances(g, false)[0];
    }

    int way(int i, int what) {
        Graph g = reachedGraph();
        if (g == null) {
            return -3;
        }
        if (i < 0 || what < 0 || what > 2) {
            return -2;
        }
        int[] d = distances(g, false);
        if (i >= d[0]) {
            return -2;
        }
        int s = 0;
        Edge first = null;
        for (int step = 0; step <= i; step++) {
            if (first != null) {
                s = first.target;
            }
            first = null;
            for (Edge e : g.edges.get(s)) {
                if (first == null && (d[s] == 1 ? e.bad : d[e.target] == d[s] - 1)) {
                    first = e;
                }
            }
        }
        return what == 0 ? first.what + 100 * first.told : what == 1 ? first.label : first.value;
    }

    int barren() {
        Graph g = reachedGraph();
        if (g == null) {
            return -3;
        }
        int n = 0;
        for (int d : distances(g, true)) {
            n += d == -1 ? 1 : 0;
        }
        return n;
    }

    int steps() {
        Graph g = reachedGraph();
        return g == null ? -3 : distances(g, true)[0];
    }

    long odds(int k) {
        if (k < 1 || k > 40) {
            return -1;
        }
        Graph g = reachedGraph();
        if (g == null) {
            return -3;
        }
        double[] p = new double[g.states.size()];
        p[0] = 1;
        for (int i = 0; i < k; i++) {
            double[] next = new double[p.length];
            for (int s = 0; s < p.length; s++) {
                if (p[s] != 0.0) {
                    double q = p[s] / g.edges.get(s).size();
                    for (Edge e : g.edges.get(s)) {
                        if (!e.bad) {
                            next[e.target] += q;
                        }
                    }
                }
            }
            p = next;
        }
        double sum = 0.0;
        for (double x : p) {
            sum += x;
        }
        return Double.doubleToLongBits(sum);
    }

    int enough() {
        int wanted = acksWanted;
        int answer = -1;
        for (int a = 1; a <= 7; a++) {
            State s = now.copy();
            if (s.acks >= a) {
                s.acks = 0;
            }
            acksWanted = a;
            Graph g = graph(List.of(s));
            if (g == null) {
                answer = -3;
                break;
            }
            if (worstOf(g)[0] != -2) {
                answer = a;
                break;
            }
        }
        acksWanted = wanted;
        return answer;
    }

    private void rows(int cells, int most, int inAll, int[] row, int at, List<int[]> all) {
        if (at == cells) {
            all.add(row.clone());
            return;
        }
        for (int n = 0; n <= Math.min(most, inAll); n++) {
            row[at] = n;
            rows(cells, most, inAll - n, row, at + 1, all);
        }
        row[at] = 0;
    }

    private List<int[]> rows(int cells, int most, int inAll) {
        List<int[]> all = new ArrayList<>();
        rows(cells, most, inAll, new int[cells], 0, all);
        return all;
    }

    /** All states that there can be, in the order of EVERY; null if they are more than 6000. */
    private List<State> allStates() {
        List<int[]> seenRows = rows(2 * labels, copiesWanted - 1, 1000);
        List<int[]> packetRows = rows(2 * labels, capacity, capacity);
        List<int[]> letterRows = rows(labels, capacity, capacity);
        long many = 4L * labels * labels * acksWanted * seenRows.size() * packetRows.size()
            * letterRows.size();
        if (many > 6000) {
            return null;
        }
        List<State> all = new ArrayList<>();
        for (int i = 0; i < labels * 2 * acksWanted * 2 * labels; i++) {
            for (int[] seenRow : seenRows) {
                for (int[] packetRow : packetRows) {
                    for (int[] letterRow : letterRows) {
                        State s = new State();
                        s.last = i % labels;
                        s.taken = i / labels % 2 == 1;
                        s.acks = i / labels / 2 % acksWanted;
                        s.value = i / labels / 2 / acksWanted % 2;
                        s.label = i / labels / 2 / acksWanted / 2;
                        for (int k = 0; k < 2 * labels; k++) {
                            s.seen[k / 2][k % 2] = seenRow[k];
                            s.packets[k / 2][k % 2] = packetRow[k];
                        }
                        System.arraycopy(letterRow, 0, s.letters, 0, labels);
                        all.add(s);
                    }
                }
            }
        }
        return all;
    }

    private final Map<String, int[]> everyKept = new LinkedHashMap<>();

    int every(int what) {
        if (what < 0 || what > 9) {
            return -1;
        }
        String key = capacity + "/" + labels + "/" + acksWanted + "/" + copiesWanted;
        int[] all = everyKept.get(key);
        if (all == null) {
            all = findEvery();
            everyKept.put(key, all);
        }
        return all[what];
    }

    private int[] findEvery() {
        int[] answers = new int[10];
        Arrays.fill(answers, -3);
        List<State> all = allStates();
        if (all == null) {
            return answers;
        }
        Graph g = graph(all);
        int[] worst = worstOf(g);
        int best = 0;
        for (int s = 0; s < worst.length; s++) {
            int here = worst[s] == -2 ? 1000000 : worst[s];
            int there = worst[best] == -2 ? 1000000 : worst[best];
            if (here > there) {
                best = s;
            }
        }
        State h = all.get(best);
        return new int[] {worst[best], all.size(), h.label, h.value, h.acks, h.taken ? 1 : 0, h.last,
            h.packetsInAll(), h.lettersInAll(), h.seenInAll()};
    }

    int struck() {
        int[][] least = new int[finished.size() + 1][delivered.size() + 1];
        for (int i = 0; i <= finished.size(); i++) {
            for (int j = 0; j <= delivered.size(); j++) {
                if (i == 0 || j == 0) {
                    least[i][j] = i + j;
                } else {
                    least[i][j] = 1 + Math.min(least[i - 1][j], least[i][j - 1]);
                    if (finished.get(i - 1).equals(delivered.get(j - 1))) {
                        least[i][j] = Math.min(least[i][j], least[i - 1][j - 1]);
                    }
                }
            }
        }
        return least[finished.size()][delivered.size()];
    }

    int row(int what, int i) {
        if (what != 0 && what != 1) {
            return -1;
        }
        List<Integer> row = what == 0 ? finished : delivered;
        if (i == -1) {
            return row.size();
        }
        return i >= 0 && i < row.size() ? row.get(i) : -1;
    }

    int feed(long a, long b, long c) {
        if (tape.size() + 24 > 264) {
            return -1;
        }
        for (long x : new long[] {a, b, c}) {
            for (int i = 7; i >= 0; i--) {
                tape.add((int) (x >> 8 * i & 255));
            }
        }
        return tape.size();
    }

    int end(int n) {
        if (n < 0 || n > tape.size()) {
            return -1;
        }
        tape = new ArrayList<>(tape.subList(0, n));
        return n;
    }

    int script() {
        List<Integer> text = tape;
        tape = new ArrayList<>();
        if (text.size() > 240) {
            return -1;
        }
        Reader r = new Reader(text, labels);
        try {
            List<Step> steps = r.steps(0);
            if (r.token() != -1) {
                throw new Fault(r.at, 1);
            }
            actsDone = 0;
            doSteps(steps);
            return actsDone;
        } catch (Fault f) {
            return -2 - (8 * f.place + f.kind);
        }
    }

    private int actsDone;

    /** Whether it goes on behind these steps. */
    private boolean doSteps(List<Step> steps) {
        for (Step s : steps) {
            if (actsDone == 600) {
                return false;
            }
            if (s.word.equals("again")) {
                for (int i = 0; i < s.one; i++) {
                    int before = actsDone;
                    if (!doSteps(s.inside)) {
                        return false;
                    }
                    if (actsDone == before) {
                        break;
                    }
                }
            } else if (s.word.equals("clear")) {
                for (int i = 0; i < s.one && actsDone < 600 && now.packetsInAll() > 0; i++) {
                    int[] first = null;
                    for (int[] a : possibleActs(now)) {
                        first = first == null && a[0] == 3 ? a : first;
                    }
                    act(3, first[1], first[2]);
                    actsDone++;
                }
            } else {
                if (act(Arrays.asList(ACT_WORDS).indexOf(s.word), s.one, s.two) == -1) {
                    return false;
                }
                actsDone++;
            }
        }
        return true;
    }

    private static final class Fault extends RuntimeException {
        private static final long serialVersionUID = 1;

        final int place;
        final int kind;

        Fault(int place, int kind) {
            this.place = place;
            this.kind = kind;
        }
    }

    private static final class Step {
        String word;
        int one;
        int two;
        List<Step> inside;
    }

    private static final class Reader {
        final List<Integer> text;
        final int labels;
        int at;

        Reader(List<Integer> text, int labels) {
            this.text = text;
            this.labels = labels;
        }

        /** The byte at which the next token begins, -1 at the end. */
        int token() {
            while (at < text.size() && text.get(at) == ' ') {
                at++;
            }
            return at < text.size() ? text.get(at) : -1;
        }

        List<Step> steps(int open) {
            List<Step> all = new ArrayList<>();
            while (token() != -1 && token() != ']') {
                all.add(step(open));
                sign(';');
            }
            return all;
        }

        void sign(char c) {
            if (token() != c) {
                throw new Fault(at, 1);
            }
            at++;
        }

        Step step(int open) {
            token();
            int start = at;
            StringBuilder word = new StringBuilder();
            while (at < text.size() && text.get(at) >= 'a' && text.get(at) <= 'z') {
                word.append((char) (int) text.get(at));
                at++;
            }
            Step s = new Step();
            s.word = word.toString();
            switch (s.word) {
                case "send":
                    break;
                case "arrive":
                case "lose":
                    s.one = number(0, labels - 1);
                    s.two = number(0, 1);
                    break;
                case "come":
                case "drop":
                    s.one = number(0, labels - 1);
                    break;
                case "clear":
                    s.one = number(1, 9);
                    break;
                case "again":
                    if (open == 4) {
                        throw new Fault(start, 3);
                    }
                    s.one = number(0, 30);
                    sign('[');
                    s.inside = steps(open + 1);
                    sign(']');
                    break;
                default:
                    throw new Fault(start, 1);
            }
            return s;
        }

        int number(int least, int most) {
            token();
            int start = at;
            StringBuilder digits = new StringBuilder();
            while (at < text.size() && text.get(at) >= '0' && text.get(at) <= '9') {
                digits.append((char) (int) text.get(at));
                at++;
            }
            if (digits.length() == 0) {
                throw new Fault(start, 1);
            }
            if (digits.length() > 2 || Integer.parseInt(digits.toString()) < least
                || Integer.parseInt(digits.toString()) > most) {
                throw new Fault(start, 2);
            }
            return Integer.parseInt(digits.toString());
        }
    }

    boolean image() {
        keptState = now.copy();
        keptQueue = new ArrayList<>(queue);
        return true;
    }

    boolean back() {
        if (keptState == null) {
            return false;
        }
        now = keptState.copy();
        queue = new ArrayList<>(keptQueue);
        return true;
    }
}
