/** For each promise of the document: ordinary calls, the edges that it names, and wrong inputs. */
public final class PromiseTest {
    private static final int BEYOND = -100001;
    private static final int MISSING = -100002;
    private static final int SIZE = -100003;
    private static final int KIND = -100004;
    private static final int FULL = -100005;
    private static final int NONE = -100006;
    private static final int LOWEST = Integer.MIN_VALUE;
    private static final int HIGHEST = Integer.MAX_VALUE;

    private static int wrong = 0;
    private static int asked = 0;
    private static int promise = 0;

    private static void due(String what, int got, int want) {
        asked++;
        if (got != want) {
            wrong++;
            System.out.println("promise " + promise + ": " + what + " answered " + got + ", due is " + want);
        }
    }

    /** Notes of one kind on one drum, at 0, step, 2 * step, .. */
    private static StickRoom line(int notes, int step) {
        StickRoom x = new StickRoom();
        for (int i = 0; i < notes; i++) {
            x.note(0, i * step, 0);
        }
        return x;
    }

    private static void newObject() {
        promise = 1;
        StickRoom x = new StickRoom();
        due("notes", x.all(0), 0);
        due("marks", x.all(1), 0);
        due("basses", x.all(2), 31);
        due("hits", x.all(3), 0);
        due("findings", x.all(4), 0);
        due("undo", x.undo(), NONE);
        int[] rules = {20, 8, 1, 40, 15};
        for (int i = 0; i < 5; i++) {
            due("rule " + i, x.rule(i, 0), rules[i]);
        }
        for (int s = 0; s < 4; s++) {
            due("sheet " + s, x.put(s, 0, 0), MISSING);
        }
    }

    private static void notes() {
        promise = 2;
        StickRoom x = new StickRoom();
        due("note at 0", x.note(0, 0, 0), 0);
        due("note at 1", x.note(3, 1, 4), 1);
        due("kind -1", x.note(-1, 2, 0), BEYOND);
        due("kind 4", x.note(4, 2, 0), BEYOND);
        due("tick -1", x.note(0, -1, 0), BEYOND);
        due("tick 10000", x.note(0, 10000, 0), BEYOND);
        due("drum -1", x.note(0, 2, -1), BEYOND);
        due("drum 5", x.note(0, 2, 5), BEYOND);
        due("far out", x.note(LOWEST, HIGHEST, LOWEST), BEYOND);
        due("the same tick", x.note(0, 1, 0), SIZE);
        due("a tick ahead", x.note(0, 0, 0), SIZE);
        due("wrong kind ahead of size", x.note(4, 0, 0), BEYOND);
        due("last tick", x.note(1, 9999, 2), 2);
        due("behind the last tick", x.note(1, 9999, 2), SIZE);
        due("what findings leave", x.all(0), 3);
        x = line(20, 10);
        due("20 notes", x.all(0), 20);
        due("size ahead of full", x.note(0, 190, 0), SIZE);
        due("beyond ahead of full", x.note(0, 191, 5), BEYOND);
        due("full", x.note(0, 191, 0), FULL);
    }

    private static void drops() {
        promise = 3;
        StickRoom x = line(3, 10);
        x.mark(2, 1);
        due("drop", x.drop(), 2);
        due("its mark", x.all(1), 0);
        due("note again", x.note(1, 11, 3), 2);
        due("no mark of the old one", x.mark(2, -1), -1);
        x.drop();
        due("drop", x.drop(), 1);
        due("drop", x.drop(), 0);
        due("none", x.drop(), NONE);
    }

    private static void kinds() {
        promise = 4;
        StickRoom x = new StickRoom();
        boolean[][] is = {
            {true, false, false, false}, {true, true, false, false}, {true, false, true, false}, {true, false, true, true}};
        for (int kind = 0; kind < 4; kind++) {
            x.note(kind, kind * 50, 0);
            for (int as = 0; as < 4; as++) {
                due("kind " + kind + " as " + as, x.as(kind, as), is[kind][as] ? kind : KIND);
            }
        }
        due("its kind stays", x.of(3, 0), 3);
        due("note 4", x.as(4, 0), BEYOND);
        due("note -1", x.as(-1, 0), BEYOND);
        due("kind 4", x.as(0, 4), BEYOND);
        due("kind -1", x.as(0, -1), BEYOND);
    }

    private static void parts() {
        promise = 5;
        StickRoom x = new StickRoom();
        int[] strokes = {1, 1, 2, 3};
        for (int kind = 0; kind < 4; kind++) {
            x.note(kind, 7 + kind * 50, 4 - kind);
            due("kind", x.of(kind, 0), kind);
            due("tick", x.of(kind, 1), 7 + kind * 50);
            due("drum", x.of(kind, 2), 4 - kind);
            due("strokes", x.of(kind, 3), strokes[kind]);
        }
        due("what 4", x.of(0, 4), BEYOND);
        due("what -1", x.of(0, -1), BEYOND);
        due("note 4", x.of(4, 0), BEYOND);
        due("note -1", x.of(-1, 0), BEYOND);
    }

    private static void marks() {
        promise = 6;
        StickRoom x = line(2, 100);
        due("first mark", x.mark(0, 1), -1);
        due("hand by mark", x.hand(0), 1);
        due("marks", x.all(1), 1);
        due("another", x.mark(0, 0), 1);
        due("the hand", x.hand(0), 0);
        due("none", x.mark(0, -1), 0);
        due("none again", x.mark(0, -1), -1);
        due("marks", x.all(1), 0);
        due("-1 is no finding", x.all(4), 0);
        due("hand 2", x.mark(0, 2), BEYOND);
        due("hand -2", x.mark(0, -2), BEYOND);
        due("note 2", x.mark(2, 0), BEYOND);
        due("note -1", x.mark(-1, 0), BEYOND);
    }

    private static void rules() {
        promise = 7;
        int[] most = {200, 100, 4, 200, 100};
        for (int which = 0; which < 5; which++) {
            StickRoom x = new StickRoom();
            x.rule(which, 0);
            due("from 0", x.rule(which, most[which]), 0);
            due("too much", x.rule(which, most[which] + 1), BEYOND);
            due("below 0", x.rule(which, -1), BEYOND);
            due("unchanged", x.rule(which, 1), most[which]);
        }
        StickRoom x = new StickRoom();
        due("rule -1", x.rule(-1, 0), BEYOND);
        due("rule 5", x.rule(5, 0), BEYOND);
    }

    private static void times() {
        promise = 8;
        StickRoom x = line(2, 20);
        x.mark(0, 0);
        x.mark(1, 0);
        due("one hand at GAP, less than FAST", x.awkward(), 3);
        x.rule(0, 21);
        due("less than GAP", x.awkward(), NONE);
        x.rule(0, 20);
        x.rule(3, 20);
        due("FAST ticks behind", x.awkward(), 2);
        x = new StickRoom();
        due("no notes", x.awkward(), 0);
        x.note(0, 0, 0);
        x.note(1, 30, 0);
        x.mark(0, 1);
        x.mark(1, 1);
        x.rule(1, 15);
        due("LIFT for 2 heights", x.awkward(), 3);
        x.rule(1, 16);
        due("LIFT too long", x.awkward(), NONE);
        x.mark(0, 0);
        due("by two hands", x.awkward(), 0);
        x.mark(1, 0);
        x.mark(0, 1);
        due("a left accent", x.awkward(), 1);
        x = new StickRoom();
        x.note(2, 100, 0);
        x.note(3, 200, 0);
        x.mark(0, 0);
        x.mark(1, 0);
        due("two flams by one hand", x.awkward(), 5);
        x.rule(3, 101);
        due("and fast", x.awkward(), 6);
    }

    private static void graceTimes() {
        promise = 8;
        StickRoom x = new StickRoom();
        x.note(0, 0, 0);
        x.note(2, 24, 0);
        x.mark(0, 0);
        x.mark(1, 1);
        due("a grace 20 behind", x.awkward(), 0);
        x.rule(0, 21);
        due("too soon", x.awkward(), NONE);
        x = new StickRoom();
        x.note(1, 0, 0);
        x.note(2, 24, 0);
        x.mark(0, 0);
        x.mark(1, 1);
        x.rule(0, 0);
        x.rule(1, 10);
        due("down to a grace", x.awkward(), 1);
        x.rule(1, 11);
        due("down too soon", x.awkward(), NONE);
        x = new StickRoom();
        x.note(0, 0, 0);
        x.note(3, 28, 0);
        x.mark(0, 0);
        x.mark(1, 1);
        due("a drag's first grace", x.awkward(), 0);
        x.rule(0, 21);
        due("too soon", x.awkward(), NONE);
        x.rule(0, 0);
        x.rule(1, 100);
        due("equal heights need no lift", x.awkward(), 0);
        x = new StickRoom();
        x.rule(0, 0);
        x.rule(1, 0);
        x.note(0, 10, 0);
        x.note(2, 12, 0);
        due("a grace ahead of its hand's stroke", x.judge(2), KIND);
        due("by the other hand it is in time", x.judge(0), 3);
    }

    private static void leastHands() {
        promise = 9;
        StickRoom x = line(4, 100);
        for (int i = 0; i < 4; i++) {
            due("left first", x.hand(i), i % 2);
        }
        x.mark(1, 0);
        int[] hands = {0, 0, 1, 0};
        for (int i = 0; i < 4; i++) {
            x.mark(0, 0);
            due("behind marks", x.hand(i), hands[i]);
        }
        due("note 4", x.hand(4), BEYOND);
        due("note -1", x.hand(-1), BEYOND);
        x.note(0, 301, 0);
        x.note(0, 302, 0);
        due("no hands", x.hand(0), NONE);
        due("beyond ahead of none", x.hand(6), BEYOND);
        x = line(20, 100);
        due("a full line", x.hand(19), 1);
        x.mark(19, 0);
        due("its mark turns all", x.hand(0), 1);
    }

    private static void crosses() {
        promise = 10;
        StickRoom x = new StickRoom();
        x.note(0, 0, 2);
        x.note(0, 100, 1);
        x.note(0, 200, 1);
        x.mark(0, 0);
        x.mark(1, 1);
        due("one hand alone", x.crossed(0), 0);
        due("right is left of left", x.crossed(1), 1);
        due("the same drum", x.crossed(2), 0);
        due("price", x.awkward(), 2);
        due("note 3", x.crossed(3), BEYOND);
        due("note -1", x.crossed(-1), BEYOND);
        x.rule(2, 0);
        due("none may cross", x.crossed(1), NONE);
        due("beyond ahead of none", x.crossed(3), BEYOND);
        x.rule(2, 1);
        x.mark(2, 1);
        due("two cross", x.awkward(), NONE);
        x.rule(2, 2);
        due("two may", x.awkward(), 6);
        due("still crossed", x.crossed(2), 1);
        x = new StickRoom();
        x.note(0, 0, 2);
        x.note(0, 100, 1);
        x.note(2, 200, 0);
        x.mark(0, 0);
        x.mark(1, 1);
        x.mark(2, 1);
        due("a flam brings both hands", x.crossed(2), 0);
    }

    private static void equals() {
        promise = 11;
        StickRoom x = new StickRoom();
        due("no notes", x.ways(), 1);
        x.note(0, 0, 0);
        due("either hand", x.ways(), 2);
        x.mark(0, 1);
        due("by mark", x.ways(), 1);
        x = line(4, 100);
        x.mark(0, 0);
        x.mark(3, 0);
        due("three places to repeat", x.ways(), 3);
        due("price", x.awkward(), 2);
        x = line(3, 1);
        due("none", x.ways(), NONE);
        // left at both ends of 20 needs one repeat, in any of 19 places
        x = line(20, 100);
        x.mark(0, 0);
        x.mark(19, 0);
        due("many", x.ways(), 19);
    }

    private static void stuckNotes() {
        promise = 12;
        StickRoom x = line(2, 5);
        due("there are hands", x.stuck(), -1);
        due("no finding", x.all(4), 0);
        x.note(0, 12, 0);
        x.note(0, 500, 0);
        due("the third", x.stuck(), 2);
        due("no finding", x.all(4), 0);
        x.rule(0, 12);
        due("at gap", x.stuck(), -1);
        x.mark(0, 0);
        x.mark(2, 1);
        due("by marks", x.stuck(), 2);
        x.mark(1, 1);
        due("still the third", x.stuck(), 2);
        x.mark(1, 0);
        due("the second", x.stuck(), 1);
        due("empty", new StickRoom().stuck(), -1);
    }

    private static void latestStrokes() {
        promise = 13;
        StickRoom x = new StickRoom();
        x.note(0, 0, 0);
        x.note(3, 100, 0);
        x.note(0, 200, 0);
        x.mark(0, 0);
        x.mark(1, 0);
        due("struck", x.latest(0, 0), 0);
        due("did not strike", x.latest(1, 0), NONE);
        due("main", x.latest(0, 1), 100);
        due("its last grace", x.latest(1, 1), 96);
        due("by now", x.latest(1, 2), 200);
        due("of old", x.latest(0, 2), 100);
        due("hand 2", x.latest(2, 0), BEYOND);
        due("hand -1", x.latest(-1, 0), BEYOND);
        due("note 3", x.latest(0, 3), BEYOND);
        due("note -1", x.latest(0, -1), BEYOND);
        x.mark(2, 1);
        x.rule(0, 105);
        due("no hands", x.latest(0, 0), NONE);
        x = new StickRoom();
        x.note(2, 0, 0);
        due("ahead of tick 0", x.latest(1, 0), -4);
        due("no finding", x.all(4), 0);
    }

    private static void judged() {
        promise = 14;
        StickRoom x = new StickRoom();
        due("no notes", x.judge(0), 0);
        due("a bit of none", x.judge(1), BEYOND);
        x = line(3, 100);
        due("left alone", x.judge(0), 4);
        due("right, left, right", x.judge(5), 0);
        due("left, right, right", x.judge(6), 2);
        due("bit 3", x.judge(8), BEYOND);
        due("bit 31", x.judge(LOWEST), BEYOND);
        x.mark(0, 1);
        due("against a mark", x.judge(2), KIND);
        x.rule(0, 150);
        due("too fast a hand", x.judge(3), KIND);
        due("a hand at 200", x.judge(5), 0);
        x = line(20, 100);
        due("20 notes", x.judge((1 << 20) - 1), 38);
        due("bit 20", x.judge(1 << 20), BEYOND);
        x = new StickRoom();
        x.note(0, 0, 1);
        x.note(0, 100, 0);
        due("a cross", x.judge(2), 2);
        x.rule(2, 0);
        due("too many crosses", x.judge(2), KIND);
        due("the other way", x.judge(1), 0);
    }

    private static void bassesThere() {
        promise = 15;
        StickRoom x = new StickRoom();
        due("is there", x.bass(0, true), 0);
        due("goes", x.bass(0, false), 1);
        due("is gone", x.bass(0, false), 0);
        due("bits", x.all(2), 30);
        due("goes", x.bass(4, false), 1);
        due("bits", x.all(2), 14);
        due("comes", x.bass(0, true), 1);
        due("bits", x.all(2), 15);
        due("bass 5", x.bass(5, true), BEYOND);
        due("bass -1", x.bass(-1, true), BEYOND);
    }

    private static void splits() {
        promise = 16;
        StickRoom x = line(20, 10);
        int[] upAndDown = {0, 1, 2, 3, 4, 3, 2, 1, 0, 1, 2, 3, 4, 3, 2, 1, 0};
        for (int k = 0; k < 17; k++) {
            due("up", x.split(3, 19, 0, 3 + k), k % 5);
            due("down", x.split(3, 19, 1, 3 + k), 4 - k % 5);
            due("up and down", x.split(3, 19, 2, 3 + k), upAndDown[k]);
        }
        x.bass(1, false);
        x.bass(2, false);
        due("the next lower", x.split(0, 4, 0, 2), 0);
        x.bass(0, false);
        due("the next higher", x.split(0, 4, 0, 2), 3);
        due("one that is there", x.split(0, 4, 0, 4), 4);
        due("from above to", x.split(4, 3, 0, 4), BEYOND);
        due("from -1", x.split(-1, 3, 0, 0), BEYOND);
        due("to 20", x.split(0, 20, 0, 0), BEYOND);
        due("shape -1", x.split(0, 3, -1, 0), BEYOND);
        due("shape 3", x.split(0, 3, 3, 0), BEYOND);
        due("note ahead", x.split(1, 3, 0, 0), BEYOND);
        due("note behind", x.split(1, 3, 0, 4), BEYOND);
        x.bass(3, false);
        x.bass(4, false);
        due("none", x.split(0, 3, 0, 0), NONE);
        due("beyond ahead of none", x.split(0, 3, 3, 0), BEYOND);
    }

    private static void counts() {
        promise = 17;
        StickRoom x = line(12, 10);
        due("up", x.has(0, 11, 0, 1), 3);
        due("up", x.has(0, 11, 0, 2), 2);
        due("down", x.has(0, 11, 1, 3), 3);
        due("up and down", x.has(0, 11, 2, 0), 2);
        due("one note", x.has(5, 5, 0, 0), 1);
        x.bass(1, false);
        due("not there", x.has(0, 11, 0, 1), 0);
        due("its notes", x.has(0, 11, 0, 0), 6);
        due("bass 5", x.has(0, 11, 0, 5), BEYOND);
        due("bass -1", x.has(0, 11, 0, -1), BEYOND);
        due("to 12", x.has(0, 12, 0, 0), BEYOND);
        due("from above to", x.has(2, 1, 0, 0), BEYOND);
        due("shape 3", x.has(0, 11, 3, 0), BEYOND);
        x.bass(0, false);
        x.bass(2, false);
        x.bass(3, false);
        x.bass(4, false);
        due("none", x.has(0, 11, 0, 0), NONE);
        due("beyond ahead of none", x.has(0, 11, 0, 5), BEYOND);
    }

    private static void fastNotes() {
        promise = 18;
        StickRoom x = line(10, 8);
        due("at twice GAP", x.fast(0, 9, 0), 0);
        x.rule(0, 21);
        due("below it", x.fast(0, 9, 0), 5);
        due("in a shorter run", x.fast(0, 5, 0), 1);
        due("one note", x.fast(0, 0, 0), 0);
        // 0 1 2 3 4 3 2 1 0 1: the second 3, the second 2, the third 1
        due("up and down", x.fast(0, 9, 2), 3);
        due("shape 3", x.fast(0, 9, 3), BEYOND);
        due("from above to", x.fast(1, 0, 0), BEYOND);
        due("to 10", x.fast(0, 10, 0), BEYOND);
        for (int b = 1; b < 5; b++) {
            x.bass(b, false);
        }
        due("one for all", x.fast(0, 9, 1), 9);
        x.bass(0, false);
        due("none", x.fast(0, 9, 0), NONE);
    }

    private static void shapes() {
        promise = 19;
        StickRoom x = line(9, 10);
        due("the least of equals", x.shape(0, 4), 0);
        x.rule(0, 30);
        due("up and down", x.shape(0, 8), 2);
        x.bass(0, false);
        // up: basses 1 1 2 3 4; down: 4 3 2 1 1; up and down: 1 1 2 3 4
        due("all have one", x.shape(0, 4), 0);
        // up: 1 1; down: 4 3
        due("down", x.shape(0, 1), 1);
        due("from above to", x.shape(1, 0), BEYOND);
        due("to 9", x.shape(0, 9), BEYOND);
        due("from -1", x.shape(-1, 0), BEYOND);
        for (int b = 1; b < 5; b++) {
            x.bass(b, false);
        }
        due("none", x.shape(0, 8), NONE);
    }

    private static void hits() {
        promise = 20;
        StickRoom x = new StickRoom();
        due("hit", x.hit(3, 0), 1);
        due("again", x.hit(3, 0), 2);
        due("late", x.hit(3, 9999), 3);
        due("below", x.hit(3, 9998), SIZE);
        due("another player", x.hit(0, 5), 1);
        due("tick -1", x.hit(3, -1), BEYOND);
        due("tick 10000", x.hit(3, 10000), BEYOND);
        due("player -1", x.hit(-1, 0), BEYOND);
        due("player 4", x.hit(4, 0), BEYOND);
        for (int i = 1; i <= 24; i++) {
            due("many", x.hit(1, 7), i);
        }
        due("size ahead of full", x.hit(1, 6), SIZE);
        due("full", x.hit(1, 7), FULL);
        due("all", x.all(3), 28);
    }

    private static void wipes() {
        promise = 21;
        StickRoom x = new StickRoom();
        x.hit(1, 50);
        x.hit(1, 60);
        x.hit(2, 60);
        due("wipe", x.wipe(1), 2);
        due("again", x.wipe(1), 0);
        due("others stay", x.all(3), 1);
        due("any tick again", x.hit(1, 0), 1);
        due("player 4", x.wipe(4), BEYOND);
        due("player -1", x.wipe(-1), BEYOND);
    }

    private static void prices() {
        promise = 22;
        StickRoom x = new StickRoom();
        due("nothing", x.price(0), 0);
        x.note(0, 100, 0);
        due("a note", x.price(0), 40);
        x.hit(0, 115);
        due("at WINDOW", x.price(0), 15);
        x.rule(4, 14);
        due("beyond WINDOW", x.price(0), 80);
        x.rule(4, 100);
        x.wipe(0);
        x.hit(0, 190);
        due("dearer than two", x.price(0), 80);
        due("player 4", x.price(4), BEYOND);
        due("player -1", x.price(-1), BEYOND);
        x = line(20, 10);
        for (int i = 0; i < 24; i++) {
            x.hit(3, i < 20 ? i * 10 + 3 : 195);
        }
        due("20 notes, 24 hits", x.price(3), 20 * 3 + 4 * 40);
    }

    private static void readings() {
        promise = 23;
        StickRoom x = line(2, 10);
        x.hit(0, 5);
        due("the first note of equals", x.read(0, 0), 0);
        due("not the second", x.read(0, 1), NONE);
        x.hit(0, 5);
        due("both", x.read(0, 1), 1);
        x = line(1, 10);
        x.hit(0, 3);
        x.hit(0, 3);
        due("the lesser hit of equals", x.read(0, 0), 0);
        x = new StickRoom();
        x.rule(4, 100);
        x.note(0, 0, 0);
        x.hit(0, 80);
        due("matched ahead of not matched", x.read(0, 0), 0);
        due("price", x.price(0), 80);
        due("note 1", x.read(0, 1), BEYOND);
        due("note -1", x.read(0, -1), BEYOND);
        due("player 4", x.read(4, 0), BEYOND);
        due("player -1", x.read(-1, 0), BEYOND);
        due("an empty tape", x.read(1, 0), NONE);
    }

    private static void lateness() {
        promise = 24;
        StickRoom x = line(3, 100);
        x.hit(1, 90);
        x.hit(1, 200);
        due("not matched", x.late(1, 0), NONE);
        due("early", x.late(1, 1), -10);
        due("in time", x.late(1, 2), 0);
        x.hit(2, 15);
        due("late", x.late(2, 0), 15);
        due("note 3", x.late(1, 3), BEYOND);
        due("note -1", x.late(1, -1), BEYOND);
        due("player 4", x.late(4, 0), BEYOND);
        due("player -1", x.late(-1, 0), BEYOND);
    }

    private static void misses() {
        promise = 25;
        StickRoom x = line(3, 100);
        due("all notes", x.missed(0, false), 3);
        due("no hit", x.missed(0, true), 0);
        x.hit(0, 101);
        x.hit(0, 150);
        due("two notes", x.missed(0, false), 2);
        due("one hit", x.missed(0, true), 1);
        due("player 4", x.missed(4, true), BEYOND);
        due("player -1", x.missed(-1, false), BEYOND);
    }

    private static void sheetsMade() {
        promise = 26;
        StickRoom x = new StickRoom();
        due("8 bits", x.sheet(0, 8, 24), 24);
        due("16 bits", x.sheet(1, 16, 3), 3);
        due("32 bits", x.sheet(3, 32, 0), 0);
        due("empty is not missing", x.tape(0, 3), 0);
        due("bits 7", x.sheet(0, 7, 3), BEYOND);
        due("bits 64", x.sheet(0, 64, 3), BEYOND);
        due("bits -8", x.sheet(0, -8, 3), BEYOND);
        due("sheet 4", x.sheet(4, 8, 3), BEYOND);
        due("sheet -1", x.sheet(-1, 8, 3), BEYOND);
        due("n -1", x.sheet(0, 8, -1), SIZE);
        due("n 25", x.sheet(0, 8, 25), BEYOND);
        due("bits ahead of size", x.sheet(0, 9, -1), BEYOND);
        x.put(1, 0, 9);
        due("findings leave it", x.tape(0, 0), 24);
        x.sheet(1, 16, 3);
        due("all 0", x.tape(0, 1), 3);
        due("missing again", x.sheet(1, 0, 0), 0);
        due("is missing", x.tape(0, 1), MISSING);
        due("missing whatever n", x.sheet(0, 0, 5), 0);
        due("is missing", x.put(0, 0, 0), MISSING);
    }

    /** The number of a sheet's first place, as far as a tape tells it: the tick, or -1 for no tick. */
    private static int firstOf(StickRoom x, int s) {
        if (x.tape(3, s) == 0) {
            return -1;
        }
        for (int i = x.all(0); i > 0; i--) {
            x.drop();
        }
        x.note(0, 100, 0);
        x.rule(4, 100);
        return 100 + x.late(3, 0);
    }

    private static void puts() {
        promise = 27;
        StickRoom x = new StickRoom();
        x.sheet(0, 8, 1);
        x.sheet(1, 16, 1);
        x.sheet(2, 32, 1);
        due("put", x.put(0, 0, 127), 0);
        due("127", firstOf(x, 0), 127);
        x.put(0, 0, 128);
        due("128 in 8 bits is below 0", firstOf(x, 0), -1);
        x.put(0, 0, 256 + 77);
        due("its lowest 8 bits", firstOf(x, 0), 77);
        x.put(1, 0, 65536 + 90);
        due("its lowest 16 bits", firstOf(x, 1), 90);
        x.put(1, 0, 32768);
        due("32768 in 16 bits is below 0", firstOf(x, 1), -1);
        x.put(2, 0, 65536 + 90);
        due("32 bits keep it", firstOf(x, 2), -1);
        due("place 1", x.put(0, 1, 0), BEYOND);
        due("place -1", x.put(0, -1, 0), BEYOND);
        due("missing", x.put(3, -1, 0), MISSING);
        due("sheet 4", x.put(4, 0, 0), BEYOND);
        due("sheet -1", x.put(-1, 0, 0), BEYOND);
    }

    private static StickRoom ascending() {
        StickRoom x = new StickRoom();
        x.sheet(0, 8, 5);
        x.sheet(1, 8, 3);
        for (int i = 0; i < 5; i++) {
            x.put(0, i, 10 + i * 20);
        }
        return x;
    }

    private static void copies() {
        promise = 28;
        StickRoom x = ascending();
        due("copy", x.copy(0, 1, 1, 0, 3), 3);
        due("a tape", x.tape(0, 1), 3);
        x.note(0, 30, 0);
        x.rule(4, 0);
        due("the first is 30", x.read(0, 0), 0);
        due("none at all", x.copy(0, 5, 1, 3, 0), 0);
        due("past its end", x.copy(0, 6, 1, 0, 0), BEYOND);
        due("too many of one", x.copy(0, 3, 1, 0, 3), BEYOND);
        due("too many for the other", x.copy(0, 0, 1, 1, 3), BEYOND);
        due("from -1", x.copy(0, -1, 1, 0, 1), BEYOND);
        due("to -1", x.copy(0, 0, 1, -1, 1), BEYOND);
        due("n -1", x.copy(0, 0, 1, 0, -1), BEYOND);
        due("far out", x.copy(0, HIGHEST, 1, HIGHEST, HIGHEST), BEYOND);
        due("far out", x.copy(0, 1, 1, 1, HIGHEST), BEYOND);
        due("sheet 4", x.copy(4, 0, 0, 0, 0), BEYOND);
        due("to sheet -1", x.copy(0, 0, -1, 0, 0), BEYOND);
        due("missing", x.copy(0, 0, 2, 0, -1), MISSING);
        due("missing", x.copy(2, 0, 0, 0, 0), MISSING);
        x.sheet(2, 16, 3);
        due("other bits", x.copy(0, 0, 2, 0, -1), KIND);
        x = ascending();
        due("onto itself, up", x.copy(0, 0, 0, 1, 4), 4);
        due("10 10 30 50 70", x.tape(0, 0), 5);
        x.rule(4, 0);
        x.note(0, 70, 0);
        due("its last is 70", x.read(0, 0), 4);
        x = ascending();
        due("onto itself, down", x.copy(0, 1, 0, 0, 4), 4);
        x.tape(0, 0);
        x.rule(4, 0);
        x.note(0, 50, 0);
        due("30 50 70 90 90", x.read(0, 0), 1);
    }

    private static void tapesOfSheets() {
        promise = 29;
        StickRoom x = ascending();
        x.hit(0, 9000);
        due("all", x.tape(0, 0), 5);
        due("the old hit is gone", x.all(3), 5);
        x.put(0, 3, 49);
        due("up to one below", x.tape(0, 0), 3);
        x.put(0, 3, 50);
        due("an equal one is fine", x.tape(0, 0), 5);
        x.put(0, 0, -1);
        due("no tick at once", x.tape(0, 0), 0);
        x.sheet(2, 16, 2);
        x.put(2, 0, 9999);
        x.put(2, 1, 10000);
        due("up to one too high", x.tape(0, 2), 1);
        due("a later hit", x.hit(0, 9999), 2);
        x.sheet(3, 32, 24);
        due("24", x.tape(1, 3), 24);
        due("full", x.hit(1, 0), FULL);
        due("player 4", x.tape(4, 0), BEYOND);
        due("player -1", x.tape(-1, 0), BEYOND);
        due("sheet 4", x.tape(0, 4), BEYOND);
        due("sheet -1", x.tape(0, -1), BEYOND);
        x.sheet(1, 0, 0);
        due("missing", x.tape(0, 1), MISSING);
    }

    private static void undone() {
        promise = 30;
        StickRoom x = new StickRoom();
        due("none", x.undo(), NONE);
        x.note(3, 100, 4);
        x.mark(0, 1);
        x.drop();
        due("drop", x.undo(), 2);
        due("kind", x.of(0, 0), 3);
        due("tick", x.of(0, 1), 100);
        due("drum", x.of(0, 2), 4);
        due("mark", x.hand(0), 1);
        due("mark", x.undo(), 1);
        due("no mark", x.all(1), 0);
        due("the hands are new", x.hand(0), 0);
        due("note", x.undo(), 0);
        due("no note", x.all(0), 0);
        due("none", x.undo(), NONE);
        x.rule(0, 7);
        due("rule", x.undo(), 0);
        due("rule as it was", x.rule(0, 20), 20);
        x.bass(2, false);
        x.bass(2, false);
        due("one that changed nothing", x.undo(), 2);
        due("still gone", x.all(2), 27);
        due("bass", x.undo(), 1);
        due("there again", x.all(2), 31);
        undoneTapes();
        undoneOften();
    }

    private static void undoneTapes() {
        StickRoom x = line(2, 100);
        x.hit(2, 3);
        x.hit(2, 104);
        x.sheet(0, 8, 1);
        x.tape(2, 0);
        due("tape", x.late(2, 0), 0);
        due("undo tape", x.undo(), 4);
        due("hits again", x.all(3), 2);
        due("as they were", x.late(2, 1), 4);
        due("sheets stay", x.put(0, 0, 1), 0);
        x.wipe(2);
        x.hit(2, 7);
        due("undo hit", x.undo(), 5);
        due("undo wipe", x.undo(), 4);
        due("as they were", x.late(2, 0), 3);
        due("as they were", x.late(2, 1), 4);
        due("a finding is not kept", x.hit(2, 0), SIZE);
        due("undo the second hit", x.undo(), 3);
        due("one hit", x.all(3), 1);
        due("findings stay", x.all(4), 1);
    }

    private static void undoneOften() {
        StickRoom x = new StickRoom();
        for (int i = 0; i < 25; i++) {
            x.rule(3, i);
        }
        for (int i = 19; i >= 0; i--) {
            due("undo", x.undo(), i);
        }
        due("only 20", x.undo(), NONE);
        due("five stand", x.rule(3, 0), 4);
    }

    private static void whole() {
        promise = 31;
        StickRoom x = line(3, 50);
        x.mark(0, 1);
        x.mark(2, 0);
        x.bass(3, false);
        x.hit(0, 1);
        x.hit(3, 1);
        due("notes", x.all(0), 3);
        due("marks", x.all(1), 2);
        due("basses", x.all(2), 23);
        due("hits", x.all(3), 2);
        due("no findings", x.all(4), 0);
        due("what 5", x.all(5), BEYOND);
        due("what -1", x.all(-1), BEYOND);
        due("both count", x.all(4), 2);
        x.hand(3);
        x.of(0, 9);
        x.judge(-1);
        x.read(0, 2);
        x.latest(2, 0);
        x.stuck();
        due("questions count too", x.all(4), 7);
        for (int i = 0; i < 8; i++) {
            x.undo();
        }
        due("undo leaves them", x.all(4), 7);
        x.undo();
        due("undo's own", x.all(4), 8);
    }

    public static void main(String[] args) {
        newObject();
        notes();
        drops();
        kinds();
        parts();
        marks();
        rules();
        times();
        graceTimes();
        leastHands();
        crosses();
        equals();
        stuckNotes();
        latestStrokes();
        judged();
        bassesThere();
        splits();
        counts();
        fastNotes();
        shapes();
        hits();
        wipes();
        prices();
        readings();
        lateness();
        misses();
        sheetsMade();
        puts();
        copies();
        tapesOfSheets();
        undone();
        whole();
        System.out.println(asked + " answers, " + wrong + " not as due");
        if (wrong != 0) {
            System.exit(1);
        }
    }
}
