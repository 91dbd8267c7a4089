/** A writing room for a drum line; ../shared/DOC.md tells what each call answers. */
public final class StickRoom {
    private static final int BEYOND = -100001;
    private static final int MISSING = -100002;
    private static final int SIZE = -100003;
    private static final int KIND = -100004;
    private static final int FULL = -100005;
    private static final int NONE = -100006;

    private static final int TAP = 0;
    private static final int ACCENT = 1;
    private static final int FLAM = 2;
    private static final int DRAG = 3;

    private static final int LEFT = 0;
    private static final int RIGHT = 1;
    private static final int NO_HAND = -1;

    private static final int GAP = 0;
    private static final int LIFT = 1;
    private static final int CROSSES = 2;
    private static final int FAST = 3;
    private static final int WINDOW = 4;

    private static final int MOST_NOTES = 20;
    private static final int MOST_TICK = 9999;
    private static final int MOST_CROSSES = 4;
    private static final int DRUMS = 5;
    private static final int BASSES = 5;
    private static final int SHAPES = 3;
    private static final int PLAYERS = 4;
    private static final int MOST_HITS = 24;
    private static final int SHEETS = 4;
    private static final int MOST_NUMBERS = 24;

    private final Rules rules;
    private final Line line;
    private final Hands theHands;
    private final Basses basses;
    private final Tapes tapes;
    private final Reading reading;
    private final Sheets sheets;
    private final Past past;
    private int findings;

    public StickRoom() {
        rules = new Rules();
        line = new Line();
        theHands = new Hands(line, rules);
        basses = new Basses(line, rules);
        tapes = new Tapes();
        reading = new Reading(line, rules, tapes);
        sheets = new Sheets();
        past = new Past();
        findings = 0;
    }

    // ---- the line

    public int note(int kind, int tick, int drum) {
        if (!isBelow(kind, DRAG + 1) || !isTick(tick) || !isBelow(drum, DRUMS)) {
            return finding(BEYOND);
        }
        if (tick <= line.latestTick()) {
            return finding(SIZE);
        }
        if (line.count >= MOST_NOTES) {
            return finding(FULL);
        }
        keep(Past.NOTE, 0, 0);
        line.append(kind, tick, drum, NO_HAND);
        return line.count - 1;
    }

    public int drop() {
        if (line.count == 0) {
            return finding(NONE);
        }
        int last = line.count - 1;
        keep(Past.DROP, line.kinds[last], line.marks[last]);
        past.keepPlace(line.ticks[last], line.drums[last]);
        line.removeLatest();
        return line.count;
    }

    public int as(int note, int kind) {
        if (!line.hasNote(note) || !isBelow(kind, DRAG + 1)) {
            return finding(BEYOND);
        }
        return line.isOfKind(note, kind) ? note : finding(KIND);
    }

    public int of(int note, int what) {
        if (!line.hasNote(note)) {
            return finding(BEYOND);
        }
        switch (what) {
            case 0:
                return line.kinds[note];
            case 1:
                return line.ticks[note];
            case 2:
                return line.drums[note];
            case 3:
                return 1 + line.graces(note);
            default:
                return finding(BEYOND);
        }
    }

    public int mark(int note, int hand) {
        if (!line.hasNote(note) || hand < NO_HAND || hand > RIGHT) {
            return finding(BEYOND);
        }
        int was = line.marks[note];
        keep(Past.MARK, note, was);
        line.setMark(note, hand);
        return was;
    }

    public int rule(int which, int v) {
        if (!rules.mayBecome(which, v)) {
            return finding(BEYOND);
        }
        int was = rules.values[which];
        keep(Past.RULE, which, was);
        rules.change(which, v);
        return was;
    }

    // ---- hands

    public int awkward() {
        return theHands.exist() ? theHands.leastPrice : finding(NONE);
    }

    public int hand(int note) {
        if (!line.hasNote(note)) {
            return finding(BEYOND);
        }
        return theHands.exist() ? handIn(theHands.best, note) : finding(NONE);
    }

    public int crossed(int note) {
        if (!line.hasNote(note)) {
            return finding(BEYOND);
        }
        if (!theHands.exist()) {
            return finding(NONE);
        }
        theHands.walk(theHands.best, note);
        return theHands.arms.areCrossed() ? 1 : 0;
    }

    public int ways() {
        return theHands.exist() ? theHands.bestWays : finding(NONE);
    }

    public int stuck() {
        return theHands.exist() ? -1 : theHands.stuckAt;
    }

    public int latest(int hand, int note) {
        if (!isBelow(hand, 2) || !line.hasNote(note)) {
            return finding(BEYOND);
        }
        if (!theHands.exist()) {
            return finding(NONE);
        }
        theHands.walk(theHands.best, note);
        int stroke = theHands.arms.strokeOf(hand);
        return stroke == Line.NO_STROKE ? finding(NONE) : line.strokeTicks[stroke];
    }

    public int judge(int hands) {
        if ((hands >>> line.count) != 0) {
            return finding(BEYOND);
        }
        if (!theHands.walk(hands, line.count - 1)) {
            return finding(KIND);
        }
        return theHands.walkPrice;
    }

    // ---- basses

    public int bass(int bass, boolean is) {
        if (!isBelow(bass, BASSES)) {
            return finding(BEYOND);
        }
        boolean isNew = basses.isThere(bass) != is;
        keep(Past.BASS, basses.there, 0);
        basses.change(bass, is);
        return isNew ? 1 : 0;
    }

    public int split(int from, int to, int shape, int note) {
        if (!isRun(from, to) || !isBelow(shape, SHAPES) || note < from || note > to) {
            return finding(BEYOND);
        }
        if (basses.there == 0) {
            return finding(NONE);
        }
        return basses.owner(shape, note - from);
    }

    public int has(int from, int to, int shape, int bass) {
        if (!isBelow(bass, BASSES) || !isRun(from, to) || !isBelow(shape, SHAPES)) {
            return finding(BEYOND);
        }
        if (basses.there == 0) {
            return finding(NONE);
        }
        return basses.notesOf(bass, from, to, shape);
    }

    public int fast(int from, int to, int shape) {
        if (!isRun(from, to) || !isBelow(shape, SHAPES)) {
            return finding(BEYOND);
        }
        if (basses.there == 0) {
            return finding(NONE);
        }
        return basses.tooFast(from, to, shape);
    }

    public int shape(int from, int to) {
        if (!isRun(from, to)) {
            return finding(BEYOND);
        }
        if (basses.there == 0) {
            return finding(NONE);
        }
        return basses.slowestShape(from, to);
    }

    // ---- tapes

    public int hit(int player, int tick) {
        if (!isBelow(player, PLAYERS) || !isTick(tick)) {
            return finding(BEYOND);
        }
        if (tick < tapes.latestTick(player)) {
            return finding(SIZE);
        }
        if (tapes.counts[player] >= MOST_HITS) {
            return finding(FULL);
        }
        keep(Past.HIT, player, 0);
        tapes.append(player, tick);
        return tapes.counts[player];
    }

    public int wipe(int player) {
        if (!isBelow(player, PLAYERS)) {
            return finding(BEYOND);
        }
        int had = tapes.counts[player];
        keepTape(player);
        tapes.clear(player);
        return had;
    }

    public int price(int player) {
        if (!isBelow(player, PLAYERS)) {
            return finding(BEYOND);
        }
        reading.find(player);
        return reading.leastPrice();
    }

    public int read(int player, int note) {
        if (!isBelow(player, PLAYERS) || !line.hasNote(note)) {
            return finding(BEYOND);
        }
        reading.find(player);
        int hit = reading.matches[note];
        return hit == Reading.UNMATCHED ? finding(NONE) : hit;
    }

    public int late(int player, int note) {
        if (!isBelow(player, PLAYERS) || !line.hasNote(note)) {
            return finding(BEYOND);
        }
        reading.find(player);
        int hit = reading.matches[note];
        if (hit == Reading.UNMATCHED) {
            return finding(NONE);
        }
        return tapes.tickAt(player, hit) - line.ticks[note];
    }

    public int missed(int player, boolean extra) {
        if (!isBelow(player, PLAYERS)) {
            return finding(BEYOND);
        }
        reading.find(player);
        int there = extra ? tapes.counts[player] : line.count;
        return there - reading.matched;
    }

    // ---- sheets, the whole

    public int sheet(int s, int bits, int n) {
        if (!isBelow(s, SHEETS) || !Sheets.areBits(bits)) {
            return finding(BEYOND);
        }
        if (n < 0) {
            return finding(SIZE);
        }
        if (n > MOST_NUMBERS) {
            return finding(BEYOND);
        }
        sheets.become(s, bits, n);
        return sheets.sizes[s];
    }

    public int put(int s, int i, int v) {
        if (!isBelow(s, SHEETS)) {
            return finding(BEYOND);
        }
        if (sheets.isMissing(s)) {
            return finding(MISSING);
        }
        if (!isBelow(i, sheets.sizes[s])) {
            return finding(BEYOND);
        }
        sheets.write(s, i, v);
        return 0;
    }

    public int copy(int s, int from, int t, int to, int n) {
        if (!isBelow(s, SHEETS) || !isBelow(t, SHEETS)) {
            return finding(BEYOND);
        }
        if (sheets.isMissing(s) || sheets.isMissing(t)) {
            return finding(MISSING);
        }
        if (sheets.bits[s] != sheets.bits[t]) {
            return finding(KIND);
        }
        if (!sheets.hasSpan(s, from, n) || !sheets.hasSpan(t, to, n)) {
            return finding(BEYOND);
        }
        sheets.move(s, from, t, to, n);
        return n;
    }

    public int tape(int player, int s) {
        if (!isBelow(player, PLAYERS) || !isBelow(s, SHEETS)) {
            return finding(BEYOND);
        }
        if (sheets.isMissing(s)) {
            return finding(MISSING);
        }
        keepTape(player);
        tapes.clear(player);
        for (int i = 0; i < sheets.sizes[s]; i++) {
            int tick = sheets.numberAt(s, i);
            if (!isTick(tick) || tick < tapes.latestTick(player)) {
                break;
            }
            tapes.append(player, tick);
        }
        return tapes.counts[player];
    }

    public int undo() {
        if (past.count == 0) {
            return finding(NONE);
        }
        revert();
        past.forgetLatest();
        theHands.forget();
        return past.count;
    }

    public int all(int what) {
        switch (what) {
            case 0:
                return line.count;
            case 1:
                return line.countMarks();
            case 2:
                return basses.there;
            case 3:
                return tapes.countAll();
            case 4:
                return findings;
            default:
                return finding(BEYOND);
        }
    }

    // ---- what the calls share

    private int finding(int which) {
        findings++;
        return which;
    }

    /** Every act that can change the line or a rule passes here, so old hands are dropped here too. */
    private void keep(int act, int first, int second) {
        past.keepAct(act, first, second);
        theHands.forget();
    }

    private void keepTape(int player) {
        keep(Past.TAPE, player, tapes.counts[player]);
        past.keepHits(tapes, player);
    }

    private void revert() {
        int first = past.first();
        int second = past.second();
        switch (past.act()) {
            case Past.NOTE:
                line.removeLatest();
                break;
            case Past.DROP:
                line.append(first, past.tick(), past.drum(), second);
                break;
            case Past.MARK:
                line.setMark(first, second);
                break;
            case Past.RULE:
                rules.change(first, second);
                break;
            case Past.BASS:
                basses.there = first;
                break;
            case Past.HIT:
                tapes.removeLatest(first);
                break;
            default:
                tapes.clear(first);
                for (int i = 0; i < second; i++) {
                    tapes.append(first, past.hitAt(i));
                }
                break;
        }
    }

    private boolean isRun(int from, int to) {
        return line.hasNote(from) && line.hasNote(to) && from <= to;
    }

    private static boolean isBelow(int number, int bound) {
        return number >= 0 && number < bound;
    }

    private static boolean isTick(int tick) {
        return tick >= 0 && tick <= MOST_TICK;
    }

    private static int handIn(int bits, int note) {
        return (bits >>> note) & 1;
    }

    /** The five rules, each from 0 to a limit of its own. */
    private static final class Rules {
        private static final int COUNT = 5;
        private static final int[] LIMITS = {200, 100, 4, 200, 100};

        final int[] values = {20, 8, 1, 40, 15};

        boolean mayBecome(int which, int value) {
            return isBelow(which, COUNT) && value >= 0 && value <= LIMITS[which];
        }

        void change(int which, int value) {
            if (mayBecome(which, value)) {
                values[which] = value;
            }
        }
    }

    /**
     * The notes with their marks. A stroke is told by one number:
     * none, or a note's main stroke, or a note's grace directly ahead of it.
     */
    private static final class Line {
        static final int NO_STROKE = 0;
        static final int STROKES = 1 + 2 * MOST_NOTES;
        static final int GRACE_HEIGHT = 1;

        private static final int GRACE_STEP = 4;
        private static final int[] HEIGHTS = {1, 3, 2, 2};
        private static final int[] GRACES = {0, 0, 1, 2};

        final int[] kinds = new int[MOST_NOTES];
        final int[] ticks = new int[MOST_NOTES];
        final int[] drums = new int[MOST_NOTES];
        final int[] marks = new int[MOST_NOTES];
        final int[] strokeTicks = new int[STROKES];
        final int[] strokeHeights = new int[STROKES];
        int count = 0;

        static int mainOf(int note) {
            return 1 + 2 * note;
        }

        static int graceOf(int note) {
            return 2 + 2 * note;
        }

        static int noteOf(int stroke) {
            return (stroke - 1) / 2;
        }

        boolean hasNote(int note) {
            return isBelow(note, count);
        }

        int latestTick() {
            return count == 0 ? -1 : ticks[count - 1];
        }

        void append(int kind, int tick, int drum, int mark) {
            if (count >= MOST_NOTES) {
                return;
            }
            kinds[count] = kind;
            ticks[count] = tick;
            drums[count] = drum;
            marks[count] = mark;
            strokeTicks[mainOf(count)] = tick;
            strokeTicks[graceOf(count)] = tick - GRACE_STEP;
            strokeHeights[mainOf(count)] = HEIGHTS[kind];
            strokeHeights[graceOf(count)] = GRACE_HEIGHT;
            count++;
        }

        void removeLatest() {
            if (count > 0) {
                count--;
            }
        }

        void setMark(int note, int hand) {
            if (hasNote(note)) {
                marks[note] = hand;
            }
        }

        int countMarks() {
            int marked = 0;
            for (int i = 0; i < count; i++) {
                if (marks[i] != NO_HAND) {
                    marked++;
                }
            }
            return marked;
        }

        boolean isOfKind(int note, int kind) {
            int own = kinds[note];
            return kind == own || kind == TAP || (kind == FLAM && own == DRAG);
        }

        int graces(int note) {
            return GRACES[kinds[note]];
        }

        int firstGraceTick(int note) {
            return ticks[note] - GRACE_STEP * GRACES[kinds[note]];
        }

        boolean mayBeBy(int note, int hand) {
            return marks[note] == NO_HAND || marks[note] == hand;
        }
    }

    /** The latest stroke of either hand while the line is struck note by note. */
    private static final class Arms {
        private final Line line;
        private final Rules rules;
        private int left = Line.NO_STROKE;
        private int right = Line.NO_STROKE;

        Arms(Line line, Rules rules) {
            this.line = line;
            this.rules = rules;
        }

        int strokeOf(int hand) {
            return hand == LEFT ? left : right;
        }

        void hold(int hand, int own, int other) {
            left = hand == LEFT ? own : other;
            right = hand == LEFT ? other : own;
        }

        /** Strikes a note by a hand; nothing changes if a mark or the time forbids it. */
        boolean strike(int note, int hand) {
            int main = Line.mainOf(note);
            int other = strokeOf(1 - hand);
            if (!line.mayBeBy(note, hand)
                    || !isInTime(strokeOf(hand), line.ticks[note], line.strokeHeights[main])) {
                return false;
            }
            if (line.graces(note) == 0) {
                hold(hand, main, other);
                return true;
            }
            // Only the first grace is asked for time: a drag's second may always follow it.
            if (!isInTime(other, line.firstGraceTick(note), Line.GRACE_HEIGHT)) {
                return false;
            }
            hold(hand, main, Line.graceOf(note));
            return true;
        }

        private boolean isInTime(int ahead, int tick, int height) {
            if (ahead == Line.NO_STROKE) {
                return true;
            }
            int lift = rules.values[LIFT] * Math.abs(height - line.strokeHeights[ahead]);
            return tick - line.strokeTicks[ahead] >= Math.max(rules.values[GAP], lift);
        }

        boolean areCrossed() {
            return left != Line.NO_STROKE && right != Line.NO_STROKE
                    && line.drums[Line.noteOf(right)] < line.drums[Line.noteOf(left)];
        }

        /** How awkward a note is that a hand has just struck, when another (or none) struck the note ahead. */
        int awkwardness(int note, int hand, int handAhead) {
            int price = areCrossed() ? 2 : 0;
            if (line.kinds[note] == ACCENT && hand == LEFT) {
                price++;
            }
            if (note == 0 || hand != handAhead) {
                return price;
            }
            price += 2;
            if (line.ticks[note] - line.ticks[note - 1] < rules.values[FAST]) {
                price++;
            }
            if (line.graces(note) > 0 && line.graces(note - 1) > 0) {
                price += 3;
            }
            return price;
        }
    }

    /** All ends that ways up to one note can have, and of each end the best ways. */
    private static final class Ends {
        private static final int CROSS_COUNTS = MOST_CROSSES + 1;
        static final int KEYS = 2 * Line.STROKES * CROSS_COUNTS;

        private final int[] keys = new int[KEYS];
        private final int[] prices = new int[KEYS];
        private final int[] firsts = new int[KEYS];
        private final int[] wayCounts = new int[KEYS];
        private int size = 0;

        static int keyOf(int hand, int otherStroke, int crosses) {
            return (hand * Line.STROKES + otherStroke) * CROSS_COUNTS + crosses;
        }

        static int handOf(int key) {
            return key / CROSS_COUNTS / Line.STROKES;
        }

        static int otherStrokeOf(int key) {
            return key / CROSS_COUNTS % Line.STROKES;
        }

        static int crossesOf(int key) {
            return key % CROSS_COUNTS;
        }

        void clear() {
            for (int i = 0; i < size; i++) {
                wayCounts[keys[i]] = 0;
            }
            size = 0;
        }

        /** The first of ways is told with note 0 as its highest bit, so that the least number is the first. */
        void offer(int key, int price, int first, int wayCount) {
            if (!isBelow(key, KEYS)) {
                return;
            }
            if (wayCounts[key] == 0 && size < KEYS) {
                keys[size] = key;
                size++;
            } else if (price > prices[key]) {
                return;
            } else if (price == prices[key]) {
                firsts[key] = Math.min(first, firsts[key]);
                wayCounts[key] += wayCount;
                return;
            }
            prices[key] = price;
            firsts[key] = first;
            wayCounts[key] = wayCount;
        }
    }

    /** The least awkward hands, found note by note over all ends that differ for what follows. */
    private static final class Hands {
        final Arms arms;
        int leastPrice = 0;
        int best = 0;
        int bestWays = 0;
        int stuckAt = -1;
        int walkPrice = 0;

        private final Line line;
        private final Rules rules;
        private Ends ends = new Ends();
        private Ends spare = new Ends();
        private boolean isKnown = false;

        Hands(Line line, Rules rules) {
            this.line = line;
            this.rules = rules;
            arms = new Arms(line, rules);
        }

        void forget() {
            isKnown = false;
        }

        boolean exist() {
            if (!isKnown) {
                solve();
                isKnown = true;
            }
            return stuckAt < 0;
        }

        private void solve() {
            ends.clear();
            ends.offer(Ends.keyOf(LEFT, Line.NO_STROKE, 0), 0, 0, 1);
            stuckAt = -1;
            for (int note = 0; note < line.count; note++) {
                spare.clear();
                for (int i = 0; i < ends.size; i++) {
                    extend(note, ends.keys[i], LEFT);
                    extend(note, ends.keys[i], RIGHT);
                }
                if (spare.size == 0) {
                    stuckAt = note;
                    return;
                }
                Ends old = ends;
                ends = spare;
                spare = old;
            }
            chooseBest();
        }

        private void extend(int note, int key, int hand) {
            int handAhead = Ends.handOf(key);
            int strokeAhead = note == 0 ? Line.NO_STROKE : Line.mainOf(note - 1);
            arms.hold(handAhead, strokeAhead, Ends.otherStrokeOf(key));
            if (!arms.strike(note, hand)) {
                return;
            }
            int crosses = Ends.crossesOf(key) + (arms.areCrossed() ? 1 : 0);
            if (crosses > rules.values[CROSSES]) {
                return;
            }
            int price = ends.prices[key] + arms.awkwardness(note, hand, handAhead);
            int newKey = Ends.keyOf(hand, arms.strokeOf(1 - hand), crosses);
            spare.offer(newKey, price, ends.firsts[key] * 2 + hand, ends.wayCounts[key]);
        }

        private void chooseBest() {
            int first = 0;
            bestWays = 0;
            for (int i = 0; i < ends.size; i++) {
                int key = ends.keys[i];
                int price = ends.prices[key];
                if (bestWays == 0 || price < leastPrice) {
                    leastPrice = price;
                    first = ends.firsts[key];
                    bestWays = ends.wayCounts[key];
                } else if (price == leastPrice) {
                    first = Math.min(first, ends.firsts[key]);
                    bestWays += ends.wayCounts[key];
                }
            }
            best = withNoteZeroLowest(first);
        }

        private int withNoteZeroLowest(int first) {
            int bits = 0;
            for (int note = 0; note < line.count; note++) {
                bits |= ((first >>> (line.count - 1 - note)) & 1) << note;
            }
            return bits;
        }

        /** Strikes the notes up to one (with it) by told hands; false if they are no hands for these. */
        boolean walk(int bits, int upTo) {
            arms.hold(LEFT, Line.NO_STROKE, Line.NO_STROKE);
            walkPrice = 0;
            int crosses = 0;
            int handAhead = NO_HAND;
            for (int note = 0; note <= upTo && note < line.count; note++) {
                int hand = handIn(bits, note);
                if (!arms.strike(note, hand)) {
                    return false;
                }
                crosses += arms.areCrossed() ? 1 : 0;
                walkPrice += arms.awkwardness(note, hand, handAhead);
                handAhead = hand;
            }
            return crosses <= rules.values[CROSSES];
        }
    }

    /** The basses that are there, and runs split over them. */
    private static final class Basses {
        private static final int ALL = 31;
        private static final int UP = 0;
        private static final int DOWN = 1;
        private static final int[] UP_AND_DOWN = {0, 1, 2, 3, 4, 3, 2, 1};
        private static final int NEVER = -1;

        int there = ALL;

        private final Line line;
        private final Rules rules;
        private final int[] latestTicks = new int[BASSES];

        Basses(Line line, Rules rules) {
            this.line = line;
            this.rules = rules;
        }

        boolean isThere(int bass) {
            return ((there >>> bass) & 1) == 1;
        }

        void change(int bass, boolean is) {
            there = is ? there | (1 << bass) : there & ~(1 << bass);
        }

        /** The bass that has a run's note at a place; only while a bass is there. */
        int owner(int shape, int place) {
            int written = written(shape, place);
            for (int bass = written; bass >= 0; bass--) {
                if (isThere(bass)) {
                    return bass;
                }
            }
            for (int bass = written + 1; bass < BASSES; bass++) {
                if (isThere(bass)) {
                    return bass;
                }
            }
            return written;
        }

        private static int written(int shape, int place) {
            if (shape == UP) {
                return place % BASSES;
            }
            if (shape == DOWN) {
                return BASSES - 1 - place % BASSES;
            }
            return UP_AND_DOWN[place % UP_AND_DOWN.length];
        }

        int notesOf(int bass, int from, int to, int shape) {
            int notes = 0;
            for (int note = from; note <= to; note++) {
                if (owner(shape, note - from) == bass) {
                    notes++;
                }
            }
            return notes;
        }

        int tooFast(int from, int to, int shape) {
            for (int bass = 0; bass < BASSES; bass++) {
                latestTicks[bass] = NEVER;
            }
            int found = 0;
            for (int note = from; note <= to; note++) {
                int bass = owner(shape, note - from);
                int tick = line.ticks[note];
                int ahead = latestTicks[bass];
                if (ahead != NEVER && tick - ahead < 2 * rules.values[GAP]) {
                    found++;
                }
                latestTicks[bass] = tick;
            }
            return found;
        }

        int slowestShape(int from, int to) {
            int best = 0;
            int least = tooFast(from, to, 0);
            for (int shape = 1; shape < SHAPES; shape++) {
                int found = tooFast(from, to, shape);
                if (found < least) {
                    least = found;
                    best = shape;
                }
            }
            return best;
        }
    }

    /** The hits of every player, in one row with equal room for each. */
    private static final class Tapes {
        final int[] counts = new int[PLAYERS];

        private final int[] hits = new int[PLAYERS * MOST_HITS];

        int tickAt(int player, int hit) {
            return hits[player * MOST_HITS + hit];
        }

        int latestTick(int player) {
            return counts[player] == 0 ? -1 : tickAt(player, counts[player] - 1);
        }

        void append(int player, int tick) {
            if (counts[player] < MOST_HITS) {
                hits[player * MOST_HITS + counts[player]] = tick;
                counts[player]++;
            }
        }

        void removeLatest(int player) {
            if (counts[player] > 0) {
                counts[player]--;
            }
        }

        void clear(int player) {
            counts[player] = 0;
        }

        int countAll() {
            int sum = 0;
            for (int player = 0; player < PLAYERS; player++) {
                sum += counts[player];
            }
            return sum;
        }
    }

    /** A player's tape read against the line. */
    private static final class Reading {
        static final int UNMATCHED = -1;

        private static final int UNMATCHED_PRICE = 40;
        private static final int ROW = MOST_HITS + 1;

        final int[] matches = new int[MOST_NOTES];
        int matched = 0;

        private final Line line;
        private final Rules rules;
        private final Tapes tapes;
        // The least price of the notes from one on with the hits from one on.
        private final int[] prices = new int[(MOST_NOTES + 1) * ROW];
        private int player = 0;

        Reading(Line line, Rules rules, Tapes tapes) {
            this.line = line;
            this.rules = rules;
            this.tapes = tapes;
        }

        int leastPrice() {
            return prices[0];
        }

        void find(int ofPlayer) {
            player = ofPlayer;
            int hits = tapes.counts[player];
            for (int note = line.count; note >= 0; note--) {
                for (int hit = hits; hit >= 0; hit--) {
                    prices[note * ROW + hit] = priceFrom(note, hit, hits);
                }
            }
            chooseMatches(hits);
        }

        private int priceFrom(int note, int hit, int hits) {
            if (note == line.count) {
                return UNMATCHED_PRICE * (hits - hit);
            }
            if (hit == hits) {
                return UNMATCHED_PRICE * (line.count - note);
            }
            int least = UNMATCHED_PRICE
                    + Math.min(prices[(note + 1) * ROW + hit], prices[note * ROW + hit + 1]);
            int apart = apart(note, hit);
            if (apart > rules.values[WINDOW]) {
                return least;
            }
            return Math.min(least, apart + prices[(note + 1) * ROW + hit + 1]);
        }

        private int apart(int note, int hit) {
            return Math.abs(tapes.tickAt(player, hit) - line.ticks[note]);
        }

        private void chooseMatches(int hits) {
            int next = 0;
            matched = 0;
            for (int note = 0; note < line.count; note++) {
                int hit = firstBestMatch(note, next, hits);
                matches[note] = hit;
                if (hit != UNMATCHED) {
                    matched++;
                    next = hit + 1;
                }
            }
        }

        private int firstBestMatch(int note, int next, int hits) {
            int least = prices[note * ROW + next];
            for (int hit = next; hit < hits; hit++) {
                int apart = apart(note, hit);
                int price = UNMATCHED_PRICE * (hit - next) + apart + prices[(note + 1) * ROW + hit + 1];
                if (apart <= rules.values[WINDOW] && price == least) {
                    return hit;
                }
            }
            return UNMATCHED;
        }
    }

    /** Rows of signed numbers; a sheet of 0 bits is missing. */
    private static final class Sheets {
        final int[] bits = new int[SHEETS];
        final int[] sizes = new int[SHEETS];

        private final int[] numbers = new int[SHEETS * MOST_NUMBERS];

        static boolean areBits(int bits) {
            return bits == 0 || bits == 8 || bits == 16 || bits == 32;
        }

        boolean isMissing(int s) {
            return bits[s] == 0;
        }

        void become(int s, int newBits, int size) {
            bits[s] = newBits;
            sizes[s] = newBits == 0 ? 0 : size;
            for (int i = 0; i < MOST_NUMBERS; i++) {
                numbers[s * MOST_NUMBERS + i] = 0;
            }
        }

        int numberAt(int s, int i) {
            return numbers[s * MOST_NUMBERS + i];
        }

        void write(int s, int i, int value) {
            int unused = 32 - bits[s];
            numbers[s * MOST_NUMBERS + i] = (value << unused) >> unused;
        }

        boolean hasSpan(int s, int from, int n) {
            return from >= 0 && n >= 0 && from <= sizes[s] && n <= sizes[s] - from;
        }

        void move(int s, int from, int t, int to, int n) {
            System.arraycopy(numbers, s * MOST_NUMBERS + from, numbers, t * MOST_NUMBERS + to, n);
        }
    }

    /** The latest acts with what they replaced, in a ring. */
    private static final class Past {
        static final int NOTE = 0;
        static final int DROP = 1;
        static final int MARK = 2;
        static final int RULE = 3;
        static final int BASS = 4;
        static final int HIT = 5;
        static final int TAPE = 6;

        private static final int KEPT = 20;

        int count = 0;

        private final int[] acts = new int[KEPT];
        private final int[] firsts = new int[KEPT];
        private final int[] seconds = new int[KEPT];
        private final int[] ticks = new int[KEPT];
        private final int[] drums = new int[KEPT];
        private final int[] hits = new int[KEPT * MOST_HITS];
        // Where the latest act stands.
        private int slot = 0;

        void keepAct(int act, int first, int second) {
            slot = (slot + 1) % KEPT;
            count = Math.min(count + 1, KEPT);
            acts[slot] = act;
            firsts[slot] = first;
            seconds[slot] = second;
        }

        void keepPlace(int tick, int drum) {
            ticks[slot] = tick;
            drums[slot] = drum;
        }

        void keepHits(Tapes tapes, int player) {
            for (int i = 0; i < tapes.counts[player]; i++) {
                hits[slot * MOST_HITS + i] = tapes.tickAt(player, i);
            }
        }

        int act() {
            return acts[slot];
        }

        int first() {
            return firsts[slot];
        }

        int second() {
            return seconds[slot];
        }

        int tick() {
            return ticks[slot];
        }

        int drum() {
            return drums[slot];
        }

        int hitAt(int i) {
            return hits[slot * MOST_HITS + i];
        }

        void forgetLatest() {
            if (count > 0) {
                count--;
                slot = (slot + KEPT - 1) % KEPT;
            }
        }
    }
}
