/** A group of tests; each quotes the words of the document that it holds the class to. */
abstract class Edges {
    static final int BEYOND = -100001;
    static final int MISSING = -100002;
    static final int SIZE = -100003;
    static final int KIND = -100004;
    static final int FULL = -100005;
    static final int NONE = -100006;

    static final int LOWEST = Integer.MIN_VALUE;
    static final int HIGHEST = Integer.MAX_VALUE;

    static final int TAP = 0;
    static final int ACCENT = 1;
    static final int FLAM = 2;
    static final int DRAG = 3;

    static final int LEFT = 0;
    static final int RIGHT = 1;

    static final int GAP = 0;
    static final int LIFT = 1;
    static final int CROSSES = 2;
    static final int FAST = 3;
    static final int WINDOW = 4;

    static final int UP = 0;
    static final int DOWN = 1;
    static final int UP_AND_DOWN = 2;

    // Numbers that are no note, player, sheet, bass, shape or hand, however many there are.
    static final int[] NEVER = {-1, LOWEST, HIGHEST, 256, 65536};

    private final Report report;

    Edges(Report report) {
        this.report = report;
    }

    abstract void run();

    final void terms(String words) {
        report.turnTo("Terms", words);
    }

    final void promise(int number, String words) {
        report.turnTo("Promise " + number, words);
    }

    final void aside(String heading, String words) {
        report.turnTo(heading, words);
    }

    final void due(String what, int got, int want) {
        report.due(what, got, want);
    }

    /** A room with notes, told as kind, tick, drum, kind, tick, drum, .. */
    static StickRoom line(int... notes) {
        StickRoom x = new StickRoom();
        for (int i = 0; i + 2 < notes.length; i += 3) {
            x.note(notes[i], notes[i + 1], notes[i + 2]);
        }
        return x;
    }

    /** A room with taps on drum 0 at these ticks. */
    static StickRoom taps(int... ticks) {
        StickRoom x = new StickRoom();
        for (int tick : ticks) {
            x.note(TAP, tick, 0);
        }
        return x;
    }

    /** A room with taps on drum 0 at 0, step, 2 * step, .. */
    static StickRoom steady(int notes, int step) {
        StickRoom x = new StickRoom();
        for (int i = 0; i < notes; i++) {
            x.note(TAP, i * step, 0);
        }
        return x;
    }

    static StickRoom withRule(StickRoom x, int which, int v) {
        x.rule(which, v);
        return x;
    }

    static void hits(StickRoom x, int player, int... ticks) {
        for (int tick : ticks) {
            x.hit(player, tick);
        }
    }

    static void onlyBasses(StickRoom x, int bits) {
        for (int bass = 0; bass < 5; bass++) {
            x.bass(bass, (bits >> bass & 1) == 1);
        }
    }

    /** Holds a sheet to be a row of these ticks, none below the one ahead; it is told by a tape. */
    final void dueTicks(String what, StickRoom x, int s, int... ticks) {
        due(what + ", how many", x.tape(3, s), ticks.length);
        x.rule(WINDOW, 0);
        for (int i = 0; i < ticks.length; i++) {
            int first = i;
            while (first > 0 && ticks[first - 1] == ticks[i]) {
                first--;
            }
            for (int notes = x.all(0); notes > 0; notes--) {
                x.drop();
            }
            x.note(TAP, ticks[i], 0);
            due(what + ", number " + i, x.read(3, 0), first);
        }
    }

    static void fill(StickRoom x, int s, int... numbers) {
        for (int i = 0; i < numbers.length; i++) {
            x.put(s, i, numbers[i]);
        }
    }
}
