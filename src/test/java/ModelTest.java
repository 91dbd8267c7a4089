import java.util.ArrayDeque;
import java.util.ArrayList;
import java.util.Arrays;
import java.util.List;
import java.util.Random;

/**
 * Random runs of calls, each answer held against a plain model that tries every way:
 * every hands by their strokes written out, every reading, and undo by whole copies of the room.
 */
public final class ModelTest {
    static final int BEYOND = -100001;
    static final int MISSING = -100002;
    static final int SIZE = -100003;
    static final int KIND = -100004;
    static final int FULL = -100005;
    static final int NONE = -100006;

    /** What undo brings back. */
    static final class State {
        List<int[]> notes = new ArrayList<>(); // kind, tick, drum, mark
        int[] rules = {20, 8, 1, 40, 15};
        boolean[] there = {true, true, true, true, true};
        List<List<Integer>> tapes = new ArrayList<>();

        State() {
            for (int i = 0; i < 4; i++) {
                tapes.add(new ArrayList<>());
            }
        }

        State copy() {
            State c = new State();
            for (int[] n : notes) {
                c.notes.add(n.clone());
            }
            c.rules = rules.clone();
            c.there = there.clone();
            for (int i = 0; i < 4; i++) {
                c.tapes.get(i).addAll(tapes.get(i));
            }
            return c;
        }
    }

    static final class Stroke {
        final int hand;
        final int tick;
        final int height;
        final int drum;
        final int note;
        final boolean free;

        Stroke(int hand, int tick, int height, int drum, int note, boolean free) {
            this.hand = hand;
            this.tick = tick;
            this.height = height;
            this.drum = drum;
            this.note = note;
            this.free = free;
        }
    }

    static final class Model {
        State now = new State();
        final ArrayDeque<State> past = new ArrayDeque<>();
        int findings = 0;
        final long[][] sheets = new long[4][];
        final int[] bits = new int[4];

        // the hands, found anew when the line or a rule has changed
        boolean known = false;
        int stuck;
        int least;
        int first;
        int ways;

        int told(int f) {
            findings++;
            return f;
        }

        void keep() {
            past.addLast(now);
            if (past.size() > 20) {
                past.removeFirst();
            }
            now = now.copy();
            known = false;
        }

        boolean isNote(int n) {
            return n >= 0 && n < now.notes.size();
        }

        int note(int kind, int tick, int drum) {
            if (kind < 0 || kind > 3 || tick < 0 || tick > 9999 || drum < 0 || drum > 4) {
                return told(BEYOND);
            }
            int n = now.notes.size();
            if (n > 0 && now.notes.get(n - 1)[1] >= tick) {
                return told(SIZE);
            }
            if (n == 20) {
                return told(FULL);
            }
            keep();
            now.notes.add(new int[] {kind, tick, drum, -1});
            return n;
        }

        int drop() {
            if (now.notes.isEmpty()) {
                return told(NONE);
            }
            keep();
            now.notes.remove(now.notes.size() - 1);
            return now.notes.size();
        }

        int as(int note, int kind) {
            if (!isNote(note) || kind < 0 || kind > 3) {
                return told(BEYOND);
            }
            int[] above = {-1, 0, 0, 2};
            for (int k = now.notes.get(note)[0]; k >= 0; k = above[k]) {
                if (k == kind) {
                    return note;
                }
            }
            return told(KIND);
        }

        int of(int note, int what) {
            if (!isNote(note) || what < 0 || what > 3) {
                return told(BEYOND);
            }
            int[] n = now.notes.get(note);
            return what < 3 ? n[what] : n[0] < 2 ? 1 : n[0];
        }

        int mark(int note, int hand) {
            if (!isNote(note) || hand < -1 || hand > 1) {
                return told(BEYOND);
            }
            keep();
            int was = now.notes.get(note)[3];
            now.notes.get(note)[3] = hand;
            return was;
        }

        int rule(int which, int v) {
            int[] most = {200, 100, 4, 200, 100};
            if (which < 0 || which > 4 || v < 0 || v > most[which]) {
                return told(BEYOND);
            }
            keep();
            int was = now.rules[which];
            now.rules[which] = v;
            return was;
        }

        List<Stroke> strokes(int hands, int count) {
            List<Stroke> all = new ArrayList<>();
            for (int i = 0; i < count; i++) {
                int[] n = now.notes.get(i);
                int hand = hands >> i & 1;
                if (n[0] == 3) {
                    all.add(new Stroke(1 - hand, n[1] - 8, 1, n[2], i, false));
                    all.add(new Stroke(1 - hand, n[1] - 4, 1, n[2], i, true));
                }
                if (n[0] == 2) {
                    all.add(new Stroke(1 - hand, n[1] - 4, 1, n[2], i, false));
                }
                all.add(new Stroke(hand, n[1], n[0] == 0 ? 1 : n[0] == 1 ? 3 : 2, n[2], i, false));
            }
            return all;
        }

        boolean crossedAt(List<Stroke> all, int note) {
            Stroke[] latest = new Stroke[2];
            for (Stroke s : all) {
                if (s.note <= note) {
                    latest[s.hand] = s;
                }
            }
            return latest[0] != null && latest[1] != null && latest[1].drum < latest[0].drum;
        }

        /** How awkward, or -1: no hands for the first notes. */
        int weigh(int hands, int count) {
            List<Stroke> all = strokes(hands, count);
            for (int hand = 0; hand < 2; hand++) {
                Stroke ahead = null;
                for (Stroke s : all) {
                    if (s.hand != hand) {
                        continue;
                    }
                    if (ahead != null && !s.free) {
                        int apart = s.tick - ahead.tick;
                        if (apart < now.rules[0] || apart < now.rules[1] * Math.abs(s.height - ahead.height)) {
                            return -1;
                        }
                    }
                    ahead = s;
                }
            }
            int sum = 0;
            int crosses = 0;
            for (int i = 0; i < count; i++) {
                int[] n = now.notes.get(i);
                int hand = hands >> i & 1;
                if (n[3] >= 0 && n[3] != hand) {
                    return -1;
                }
                if (i > 0 && hand == (hands >> (i - 1) & 1)) {
                    int[] ahead = now.notes.get(i - 1);
                    sum += 2;
                    sum += n[1] - ahead[1] < now.rules[3] ? 1 : 0;
                    sum += n[0] >= 2 && ahead[0] >= 2 ? 3 : 0;
                }
                sum += n[0] == 1 && hand == 0 ? 1 : 0;
                if (crossedAt(all, i)) {
                    sum += 2;
                    crosses++;
                }
            }
            return crosses > now.rules[2] ? -1 : sum;
        }

        boolean isAhead(int a, int b) {
            for (int i = 0; i < 20; i++) {
                if ((a >> i & 1) != (b >> i & 1)) {
                    return (a >> i & 1) == 0;
                }
            }
            return false;
        }

        boolean solve() {
            if (known) {
                return stuck < 0;
            }
            known = true;
            stuck = -1;
            for (int count = 0; count <= now.notes.size(); count++) {
                ways = 0;
                for (int hands = 0; hands < 1 << count; hands++) {
                    int w = weigh(hands, count);
                    if (w < 0) {
                        continue;
                    }
                    if (ways == 0 || w < least) {
                        least = w;
                        first = hands;
                        ways = 1;
                    } else if (w == least) {
                        ways++;
                        first = isAhead(hands, first) ? hands : first;
                    }
                }
                if (ways == 0) {
                    stuck = count - 1;
                    return false;
                }
            }
            return true;
        }

        int awkward() {
            return solve() ? least : told(NONE);
        }

        int hand(int note) {
            return !isNote(note) ? told(BEYOND) : solve() ? first >> note & 1 : told(NONE);
        }

        int crossed(int note) {
            if (!isNote(note)) {
                return told(BEYOND);
            }
            if (!solve()) {
                return told(NONE);
            }
            return crossedAt(strokes(first, now.notes.size()), note) ? 1 : 0;
        }

        int ways() {
            return solve() ? ways : told(NONE);
        }

        int stuck() {
            return solve() ? -1 : stuck;
        }

        int latest(int hand, int note) {
            if (hand < 0 || hand > 1 || !isNote(note)) {
                return told(BEYOND);
            }
            if (!solve()) {
                return told(NONE);
            }
            List<Stroke> all = strokes(first, note + 1);
            for (int i = all.size() - 1; i >= 0; i--) {
                if (all.get(i).hand == hand) {
                    return all.get(i).tick;
                }
            }
            return told(NONE);
        }

        int judge(int hands) {
            for (int i = now.notes.size(); i < 32; i++) {
                if ((hands >> i & 1) != 0) {
                    return told(BEYOND);
                }
            }
            int w = weigh(hands, now.notes.size());
            return w < 0 ? told(KIND) : w;
        }

        int bass(int bass, boolean is) {
            if (bass < 0 || bass > 4) {
                return told(BEYOND);
            }
            keep();
            boolean isNew = now.there[bass] != is;
            now.there[bass] = is;
            return isNew ? 1 : 0;
        }

        /** The bass of each note of a run. */
        int[] run(int from, int to, int shape) {
            int[] owners = new int[to - from + 1];
            int bass = shape == 1 ? 4 : 0;
            int step = 1;
            for (int k = 0; k < owners.length; k++) {
                int own = bass;
                while (own >= 0 && !now.there[own]) {
                    own--;
                }
                if (own < 0) {
                    own = bass;
                    while (!now.there[own]) {
                        own++;
                    }
                }
                owners[k] = own;
                if (shape == 0) {
                    bass = bass == 4 ? 0 : bass + 1;
                } else if (shape == 1) {
                    bass = bass == 0 ? 4 : bass - 1;
                } else {
                    step = bass == 4 ? -1 : bass == 0 ? 1 : step;
                    bass += step;
                }
            }
            return owners;
        }

        boolean isRun(int from, int to, int shape) {
            return isNote(from) && isNote(to) && from <= to && shape >= 0 && shape <= 2;
        }

        boolean noBass() {
            for (boolean b : now.there) {
                if (b) {
                    return false;
                }
            }
            return true;
        }

        int split(int from, int to, int shape, int note) {
            if (!isRun(from, to, shape) || note < from || note > to) {
                return told(BEYOND);
            }
            return noBass() ? told(NONE) : run(from, to, shape)[note - from];
        }

        int has(int from, int to, int shape, int bass) {
            if (!isRun(from, to, shape) || bass < 0 || bass > 4) {
                return told(BEYOND);
            }
            if (noBass()) {
                return told(NONE);
            }
            int sum = 0;
            for (int b : run(from, to, shape)) {
                sum += b == bass ? 1 : 0;
            }
            return sum;
        }

        int tooFast(int from, int to, int shape) {
            int[] owners = run(from, to, shape);
            int sum = 0;
            for (int k = 0; k < owners.length; k++) {
                for (int j = k - 1; j >= 0; j--) {
                    if (owners[j] == owners[k]) {
                        int apart = now.notes.get(from + k)[1] - now.notes.get(from + j)[1];
                        sum += apart < 2 * now.rules[0] ? 1 : 0;
                        break;
                    }
                }
            }
            return sum;
        }

        int fast(int from, int to, int shape) {
            if (!isRun(from, to, shape)) {
                return told(BEYOND);
            }
            return noBass() ? told(NONE) : tooFast(from, to, shape);
        }

        int shape(int from, int to) {
            if (!isRun(from, to, 0)) {
                return told(BEYOND);
            }
            if (noBass()) {
                return told(NONE);
            }
            int a = tooFast(from, to, 0);
            int b = tooFast(from, to, 1);
            int c = tooFast(from, to, 2);
            return a <= b && a <= c ? 0 : b <= c ? 1 : 2;
        }

        int hit(int player, int tick) {
            if (player < 0 || player > 3 || tick < 0 || tick > 9999) {
                return told(BEYOND);
            }
            List<Integer> t = now.tapes.get(player);
            if (!t.isEmpty() && t.get(t.size() - 1) > tick) {
                return told(SIZE);
            }
            if (t.size() == 24) {
                return told(FULL);
            }
            keep();
            now.tapes.get(player).add(tick);
            return t.size() + 1;
        }

        int wipe(int player) {
            if (player < 0 || player > 3) {
                return told(BEYOND);
            }
            keep();
            int had = now.tapes.get(player).size();
            now.tapes.get(player).clear();
            return had;
        }

        int[] bestReading;
        int bestPrice;

        /**
         * Tries readings in the order in which they are the first, so only a lesser price replaces one.
         * A way is left as soon as it is dear without what follows.
         */
        void tryReadings(List<Integer> t, int[] reading, int note, int next, int price) {
            if (bestReading != null && price >= bestPrice) {
                return;
            }
            if (note == now.notes.size()) {
                int all = price + 40 * (t.size() - next);
                if (bestReading == null || all < bestPrice) {
                    bestPrice = all;
                    bestReading = reading.clone();
                }
                return;
            }
            for (int h = next; h < t.size(); h++) {
                int apart = Math.abs(t.get(h) - now.notes.get(note)[1]);
                if (apart <= now.rules[4]) {
                    reading[note] = h;
                    tryReadings(t, reading, note + 1, h + 1, price + apart + 40 * (h - next));
                }
            }
            reading[note] = -1;
            tryReadings(t, reading, note + 1, next, price + 40);
        }

        int[] reading(int player) {
            bestReading = null;
            tryReadings(now.tapes.get(player), new int[now.notes.size()], 0, 0, 0);
            return bestReading;
        }

        int price(int player) {
            if (player < 0 || player > 3) {
                return told(BEYOND);
            }
            reading(player);
            return bestPrice;
        }

        int read(int player, int note) {
            if (player < 0 || player > 3 || !isNote(note)) {
                return told(BEYOND);
            }
            int hit = reading(player)[note];
            return hit < 0 ? told(NONE) : hit;
        }

        int late(int player, int note) {
            if (player < 0 || player > 3 || !isNote(note)) {
                return told(BEYOND);
            }
            int hit = reading(player)[note];
            return hit < 0 ? told(NONE) : now.tapes.get(player).get(hit) - now.notes.get(note)[1];
        }

        int missed(int player, boolean extra) {
            if (player < 0 || player > 3) {
                return told(BEYOND);
            }
            int left = extra ? now.tapes.get(player).size() : now.notes.size();
            for (int hit : reading(player)) {
                left -= hit >= 0 ? 1 : 0;
            }
            return left;
        }

        int sheet(int s, int b, int n) {
            if (s < 0 || s > 3 || b != 0 && b != 8 && b != 16 && b != 32) {
                return told(BEYOND);
            }
            if (n < 0) {
                return told(SIZE);
            }
            if (n > 24) {
                return told(BEYOND);
            }
            sheets[s] = b == 0 ? null : new long[n];
            bits[s] = b;
            return b == 0 ? 0 : n;
        }

        int put(int s, int i, int v) {
            if (s < 0 || s > 3) {
                return told(BEYOND);
            }
            if (sheets[s] == null) {
                return told(MISSING);
            }
            if (i < 0 || i >= sheets[s].length) {
                return told(BEYOND);
            }
            sheets[s][i] = bits[s] == 8 ? (byte) v : bits[s] == 16 ? (short) v : v;
            return 0;
        }

        int copy(int s, int from, int t, int to, int n) {
            if (s < 0 || s > 3 || t < 0 || t > 3) {
                return told(BEYOND);
            }
            if (sheets[s] == null || sheets[t] == null) {
                return told(MISSING);
            }
            if (bits[s] != bits[t]) {
                return told(KIND);
            }
            if (from < 0 || to < 0 || n < 0 || (long) from + n > sheets[s].length || (long) to + n > sheets[t].length) {
                return told(BEYOND);
            }
            long[] taken = Arrays.copyOfRange(sheets[s], from, from + n);
            for (int i = 0; i < n; i++) {
                sheets[t][to + i] = taken[i];
            }
            return n;
        }

        int tape(int player, int s) {
            if (player < 0 || player > 3 || s < 0 || s > 3) {
                return told(BEYOND);
            }
            if (sheets[s] == null) {
                return told(MISSING);
            }
            keep();
            List<Integer> t = now.tapes.get(player);
            t.clear();
            long ahead = 0;
            for (long v : sheets[s]) {
                if (v < ahead || v > 9999) {
                    break;
                }
                t.add((int) v);
                ahead = v;
            }
            return t.size();
        }

        int undo() {
            if (past.isEmpty()) {
                return told(NONE);
            }
            now = past.removeLast();
            known = false;
            return past.size();
        }

        int all(int what) {
            int sum = 0;
            switch (what) {
                case 0:
                    return now.notes.size();
                case 1:
                    for (int[] n : now.notes) {
                        sum += n[3] >= 0 ? 1 : 0;
                    }
                    return sum;
                case 2:
                    for (int b = 0; b < 5; b++) {
                        sum += now.there[b] ? 1 << b : 0;
                    }
                    return sum;
                case 3:
                    for (List<Integer> t : now.tapes) {
                        sum += t.size();
                    }
                    return sum;
                case 4:
                    return findings;
                default:
                    return told(BEYOND);
            }
        }
    }

    static int wrong = 0;
    static long asked = 0;

    static final int[] EDGES = {
        Integer.MIN_VALUE, Integer.MIN_VALUE + 1, -100001, -2, -1, 0, 1, 2, 3, 4, 5, 8, 16, 19, 20, 21, 24, 25, 31, 32,
        100, 101, 200, 201, 9999, 10000, 1 << 20, Integer.MAX_VALUE - 1, Integer.MAX_VALUE};

    final Random random;
    final StickRoom room = new StickRoom();
    final Model model = new Model();
    final StringBuilder told = new StringBuilder();
    final int mostNotes;
    final int stride;

    ModelTest(long seed, int mostNotes, int stride) {
        random = new Random(seed);
        this.mostNotes = mostNotes;
        this.stride = stride;
    }

    int odd(int usual) {
        return random.nextInt(25) == 0 ? EDGES[random.nextInt(EDGES.length)] : usual;
    }

    int upTo(int n) {
        return odd(random.nextInt(Math.max(1, n)));
    }

    int someNote() {
        return upTo(model.now.notes.size());
    }

    int nextTick() {
        int n = model.now.notes.size();
        int last = n == 0 ? random.nextInt(40) - 1 : model.now.notes.get(n - 1)[1];
        return odd(last + random.nextInt(stride) + (random.nextInt(12) == 0 ? 0 : 1));
    }

    int hitTick(int player) {
        if (player < 0 || player > 3) {
            return 0;
        }
        List<Integer> t = model.now.tapes.get(player);
        int last = t.isEmpty() ? random.nextInt(50) : t.get(t.size() - 1);
        return odd(last + random.nextInt(stride) - (random.nextInt(12) == 0 ? stride : 0));
    }

    void due(String call, int got, int want) {
        asked++;
        told.append(call).append(" -> ").append(got).append('\n');
        if (got != want) {
            wrong++;
            if (wrong < 4) {
                System.out.println(told + "DUE: " + want);
            }
        }
    }

    static String call(String name, Object... args) {
        return name + Arrays.toString(args);
    }

    void line() {
        int a;
        int b;
        int c;
        switch (random.nextInt(9)) {
            case 0:
            case 1:
            case 2:
                a = upTo(4);
                b = nextTick();
                c = upTo(5);
                if (model.now.notes.size() < mostNotes) {
                    due(call("note", a, b, c), room.note(a, b, c), model.note(a, b, c));
                }
                break;
            case 3:
                if (random.nextInt(3) == 0) {
                    due(call("drop"), room.drop(), model.drop());
                }
                break;
            case 4:
                a = someNote();
                b = upTo(4);
                due(call("as", a, b), room.as(a, b), model.as(a, b));
                break;
            case 5:
                a = someNote();
                b = upTo(4);
                due(call("of", a, b), room.of(a, b), model.of(a, b));
                break;
            case 6:
                a = someNote();
                b = random.nextInt(5) < 3 ? -1 : upTo(2);
                due(call("mark", a, b), room.mark(a, b), model.mark(a, b));
                break;
            default:
                a = upTo(5);
                int[] most = {30, 20, 5, 80, 60};
                b = a >= 0 && a < 5 ? upTo(most[a]) : 0;
                due(call("rule", a, b), room.rule(a, b), model.rule(a, b));
                break;
        }
    }

    void hands() {
        int a = someNote();
        int b = upTo(2);
        due(call("awkward"), room.awkward(), model.awkward());
        due(call("hand", a), room.hand(a), model.hand(a));
        due(call("crossed", a), room.crossed(a), model.crossed(a));
        due(call("ways"), room.ways(), model.ways());
        due(call("stuck"), room.stuck(), model.stuck());
        due(call("latest", b, a), room.latest(b, a), model.latest(b, a));
        int hands = odd(random.nextInt(1 << model.now.notes.size()));
        due(call("judge", hands), room.judge(hands), model.judge(hands));
        if (model.solve()) {
            hands = model.first ^ (random.nextBoolean() ? 1 << random.nextInt(1 + model.now.notes.size()) : 0);
            due(call("judge", hands), room.judge(hands), model.judge(hands));
        }
    }

    void basses() {
        int from = someNote();
        int to = random.nextInt(6) == 0 ? someNote() : Math.max(from, someNote());
        int shape = upTo(3);
        int note = random.nextInt(3) == 0 ? someNote() : from;
        int bass = upTo(5);
        boolean is = random.nextInt(5) < 2;
        switch (random.nextInt(5)) {
            case 0:
                due(call("bass", bass, is), room.bass(bass, is), model.bass(bass, is));
                break;
            case 1:
                due(call("split", from, to, shape, note),
                        room.split(from, to, shape, note), model.split(from, to, shape, note));
                break;
            case 2:
                due(call("has", from, to, shape, bass),
                        room.has(from, to, shape, bass), model.has(from, to, shape, bass));
                break;
            case 3:
                due(call("fast", from, to, shape), room.fast(from, to, shape), model.fast(from, to, shape));
                break;
            default:
                due(call("shape", from, to), room.shape(from, to), model.shape(from, to));
                break;
        }
    }

    void tapes() {
        int player = odd(random.nextInt(3) == 0 ? random.nextInt(4) : 0);
        int note = someNote();
        int tick = hitTick(player);
        boolean extra = random.nextBoolean();
        switch (random.nextInt(10)) {
            case 0:
            case 1:
            case 2:
            case 3:
                due(call("hit", player, tick), room.hit(player, tick), model.hit(player, tick));
                break;
            case 4:
                if (random.nextInt(4) == 0) {
                    due(call("wipe", player), room.wipe(player), model.wipe(player));
                }
                break;
            case 5:
                due(call("price", player), room.price(player), model.price(player));
                break;
            case 6:
                due(call("read", player, note), room.read(player, note), model.read(player, note));
                break;
            case 7:
                due(call("late", player, note), room.late(player, note), model.late(player, note));
                break;
            default:
                due(call("missed", player, extra), room.missed(player, extra), model.missed(player, extra));
                break;
        }
    }

    void sheets() {
        int s = upTo(4);
        int t = upTo(4);
        int n = upTo(25);
        int i = upTo(12);
        int j = upTo(12);
        switch (random.nextInt(9)) {
            case 0:
            case 1:
                int[] widths = {0, 8, 8, 16, 16, 32, 32, 7};
                int bits = odd(widths[random.nextInt(widths.length)]);
                due(call("sheet", s, bits, n), room.sheet(s, bits, n), model.sheet(s, bits, n));
                break;
            case 2:
            case 3:
            case 4:
            case 5:
                int v = random.nextInt(3) == 0 ? odd(random.nextInt()) : i * 20 + random.nextInt(20);
                due(call("put", s, i, v), room.put(s, i, v), model.put(s, i, v));
                break;
            case 6:
                int few = odd(random.nextInt(8));
                due(call("copy", s, i, t, j, few), room.copy(s, i, t, j, few), model.copy(s, i, t, j, few));
                break;
            default:
                due(call("tape", t, s), room.tape(t, s), model.tape(t, s));
                break;
        }
    }

    void whole() {
        int what = upTo(5);
        due(call("all", what), room.all(what), model.all(what));
        if (random.nextInt(5) == 0) {
            int times = random.nextInt(20) == 0 ? 22 : 1 + random.nextInt(3);
            for (int k = 0; k < times; k++) {
                due(call("undo"), room.undo(), model.undo());
            }
        }
    }

    void play(int rounds) {
        for (int k = 0; k < rounds; k++) {
            switch (random.nextInt(8)) {
                case 0:
                case 1:
                case 2:
                    line();
                    break;
                case 3:
                    if (random.nextInt(3) == 0) {
                        hands();
                    }
                    break;
                case 4:
                    basses();
                    break;
                case 5:
                    tapes();
                    break;
                case 6:
                    sheets();
                    break;
                default:
                    whole();
                    break;
            }
        }
        for (int what = 0; what < 6; what++) {
            due(call("all", what), room.all(what), model.all(what));
        }
    }

    /** A line with hands asked for, under rules that often bind but seldom forbid everything. */
    void playHands(int notes) {
        int tick = random.nextInt(30);
        for (int which = 0; which < 4; which++) {
            int[] most = {26, 14, 5, 60};
            int v = random.nextInt(most[which]);
            due(call("rule", which, v), room.rule(which, v), model.rule(which, v));
        }
        for (int k = 0; k < notes; k++) {
            int kind = random.nextInt(4);
            int drum = random.nextInt(5);
            due(call("note", kind, tick, drum), room.note(kind, tick, drum), model.note(kind, tick, drum));
            tick += 1 + random.nextInt(stride);
            if (random.nextInt(6) == 0) {
                int hand = random.nextInt(2);
                due(call("mark", k, hand), room.mark(k, hand), model.mark(k, hand));
            }
        }
        for (int k = 0; k < 3; k++) {
            hands();
            for (int n = 0; n < notes; n++) {
                due(call("hand", n), room.hand(n), model.hand(n));
                due(call("crossed", n), room.crossed(n), model.crossed(n));
                due(call("latest", 0, n), room.latest(0, n), model.latest(0, n));
                due(call("latest", 1, n), room.latest(1, n), model.latest(1, n));
            }
            due(call("drop"), room.drop(), model.drop());
        }
    }

    /** A full line and a full tape, with many equal prices. */
    void playTape(int notes, int hits) {
        int window = random.nextInt(101);
        due(call("rule", 4, window), room.rule(4, window), model.rule(4, window));
        int tick = random.nextInt(20);
        for (int k = 0; k < notes; k++) {
            due(call("note", 0, tick, 0), room.note(0, tick, 0), model.note(0, tick, 0));
            tick += 1 + random.nextInt(stride);
        }
        tick = random.nextInt(20);
        for (int k = 0; k < hits; k++) {
            due(call("hit", 2, tick), room.hit(2, tick), model.hit(2, tick));
            tick += random.nextInt(stride);
        }
        due(call("price", 2), room.price(2), model.price(2));
        due(call("missed", 2, true), room.missed(2, true), model.missed(2, true));
        due(call("missed", 2, false), room.missed(2, false), model.missed(2, false));
        for (int n = 0; n < notes; n++) {
            due(call("read", 2, n), room.read(2, n), model.read(2, n));
            due(call("late", 2, n), room.late(2, n), model.late(2, n));
        }
    }

    public static void main(String[] args) {
        int scale = args.length > 0 ? Integer.parseInt(args[0]) : 1;
        for (int seed = 0; seed < 1500 * scale; seed++) {
            new ModelTest(seed, 8, 6 + seed % 40).play(250);
        }
        for (int seed = 0; seed < 3000 * scale; seed++) {
            new ModelTest(seed, 9, 4 + seed % 45).playHands(1 + seed % 9);
        }
        for (int seed = 0; seed < 20 * scale; seed++) {
            new ModelTest(seed, 13, 10 + seed).playHands(13);
        }
        for (int seed = 0; seed < 3000 * scale; seed++) {
            new ModelTest(seed, 20, 2 + seed % 50).playTape(seed % 8, seed % 9);
        }
        System.out.println(asked + " calls, " + wrong + " not as the model has it");
        if (wrong != 0) {
            System.exit(1);
        }
    }
}
