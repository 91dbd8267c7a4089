/** The line: its notes, their strokes, the rules and the marks. */
final class LineEdges extends Edges {
    LineEdges(Report report) {
        super(report);
    }

    @Override
    void run() {
        numbers();
        ticks();
        drums();
        kinds();
        hands();
        mains();
        heights();
        graces();
        graceHeights();
        graceDrums();
        flams();
        drags();
        gapLimits();
        liftLimits();
        crossesLimits();
        fastLimits();
        gaps();
        lifts();
        secondGraces();
        marksBind();
        note();
        drop();
        as();
        of();
        mark();
        rule();
    }

    private void numbers() {
        terms("THE LINE has NOTES 0, 1, .. (at most 20)");
        StickRoom x = new StickRoom();
        due("no note yet", x.of(0, 0), BEYOND);
        for (int i = 0; i < 20; i++) {
            due("note", x.note(TAP, i, 0), i);
        }
        due("one more", x.note(TAP, 20, 0), FULL);
        due("notes", x.all(0), 20);
        due("note 19", x.of(19, 1), 19);
        due("note 20", x.of(20, 1), BEYOND);
        x.drop();
        due("in place of the dropped one", x.note(TAP, 20, 0), 19);
    }

    private void ticks() {
        terms("each at a TICK (0 to 9999, above that of the one ahead)");
        StickRoom x = new StickRoom();
        due("-1", x.note(TAP, -1, 0), BEYOND);
        due("0", x.note(TAP, 0, 0), 0);
        due("0 again", x.note(TAP, 0, 0), SIZE);
        due("1", x.note(TAP, 1, 0), 1);
        due("10000", x.note(TAP, 10000, 0), BEYOND);
        due("9999", x.note(TAP, 9999, 0), 2);
        due("the least", x.of(0, 1), 0);
        due("the highest", x.of(2, 1), 9999);
    }

    private void drums() {
        terms("on a DRUM (0 to 4, from left to right)");
        StickRoom x = new StickRoom();
        due("-1", x.note(TAP, 0, -1), BEYOND);
        due("5", x.note(TAP, 0, 5), BEYOND);
        due("0", x.note(TAP, 0, 0), 0);
        due("4", x.note(TAP, 100, 4), 1);
        due("the first drum", x.of(0, 2), 0);
        due("the last drum", x.of(1, 2), 4);
        due("left hand on 0, right hand on 4", x.judge(2), 0);
        due("right hand on 0, left hand on 4", x.judge(1), 2);
    }

    private void kinds() {
        terms("of a kind: 0 TAP, 1 ACCENT under it, 2 FLAM under TAP, 3 DRAG under FLAM.");
        int[][] due = {
            {0, KIND, KIND, KIND},
            {1, 1, KIND, KIND},
            {2, KIND, 2, KIND},
            {3, KIND, 3, 3}};
        StickRoom x = line(TAP, 10, 0, ACCENT, 20, 0, FLAM, 30, 0, DRAG, 40, 0);
        for (int kind = 0; kind < 4; kind++) {
            for (int as = 0; as < 4; as++) {
                due("kind " + kind + " as " + as, x.as(kind, as), due[kind][as]);
            }
        }
        due("kind 4", x.note(4, 50, 0), BEYOND);
        due("kind -1", x.note(-1, 50, 0), BEYOND);
    }

    private void hands() {
        terms("HANDS are 0 (left) and 1 (right).");
        StickRoom x = line(ACCENT, 10, 0);
        x.mark(0, 0);
        due("an accent by the left hand", x.awkward(), 1);
        due("by the left", x.latest(0, 0), 10);
        due("not by the right", x.latest(1, 0), NONE);
        x.mark(0, 1);
        due("an accent by the right hand", x.awkward(), 0);
        due("by the right", x.latest(1, 0), 10);
        due("not by the left", x.latest(0, 0), NONE);
        due("no hand 2", x.mark(0, 2), BEYOND);
        due("no hand 2", x.latest(2, 0), BEYOND);
    }

    private void mains() {
        terms("A NOTE'S MAIN stroke is by its HAND, at its TICK");
        for (int kind = 0; kind < 4; kind++) {
            StickRoom x = line(kind, 100, 0);
            for (int hand = 0; hand < 2; hand++) {
                x.mark(0, hand);
                due("kind " + kind + " by hand " + hand, x.latest(hand, 0), 100);
            }
        }
    }

    /** Two notes by the left hand, as near as lifts of 10 a height let them be. */
    private void heights() {
        terms("of HEIGHT 1 (ACCENT 3, FLAM and DRAG 2).");
        // A drag behind a flam or drag needs 4: its first grace comes at the other's last one.
        int[][] near = {
            {1, 20, 10, 10},
            {20, 1, 10, 10},
            {10, 10, 1, 4},
            {10, 10, 1, 4}};
        int[][] price = {
            {2, 3, 2, 2},
            {3, 4, 3, 3},
            {2, 3, 5, 5},
            {2, 3, 5, 5}};
        for (int a = 0; a < 4; a++) {
            for (int b = 0; b < 4; b++) {
                String pair = "kind " + b + " behind kind " + a;
                due(pair, liftedPair(a, b, near[a][b]).judge(0), price[a][b]);
                if (near[a][b] > 1) {
                    due(pair + ", too soon", liftedPair(a, b, near[a][b] - 1).judge(0), KIND);
                }
            }
        }
    }

    private static StickRoom liftedPair(int first, int second, int apart) {
        StickRoom x = line(first, 100, 0, second, 100 + apart, 0);
        x.rule(GAP, 0);
        x.rule(LIFT, 10);
        x.rule(FAST, 0);
        return x;
    }

    private void graces() {
        terms("GRACES are strokes of the other HAND");
        for (int kind = FLAM; kind <= DRAG; kind++) {
            StickRoom x = line(kind, 100, 0);
            for (int hand = 0; hand < 2; hand++) {
                x.mark(0, hand);
                due("kind " + kind + " by hand " + hand, x.latest(1 - hand, 0), 96);
            }
        }
        for (int kind = TAP; kind <= ACCENT; kind++) {
            due("none of kind " + kind, withMark(line(kind, 100, 0), 0, LEFT).latest(RIGHT, 0), NONE);
        }
    }

    private static StickRoom withMark(StickRoom x, int note, int hand) {
        x.mark(note, hand);
        return x;
    }

    private void graceHeights() {
        terms("of HEIGHT 1, on its DRUM");
        int[] apart = {0, 20, 10, 10};
        int[] price = {0, 1, 0, 0};
        for (int kind = 0; kind < 4; kind++) {
            due("a flam's behind kind " + kind, liftedPair(kind, FLAM, apart[kind] + 4).judge(2), price[kind]);
            due("too soon", liftedPair(kind, FLAM, apart[kind] + 3).judge(2), KIND);
            due("a drag's behind kind " + kind, liftedPair(kind, DRAG, apart[kind] + 8).judge(2), price[kind]);
            due("too soon", liftedPair(kind, DRAG, apart[kind] + 7).judge(2), KIND);
        }
        // The grace is at 96 by the left hand, which strikes the note behind too.
        due("a tap behind a grace", liftedPair(FLAM, TAP, 1).judge(1), 0);
        due("an accent behind a grace", liftedPair(FLAM, ACCENT, 16).judge(1), 1);
        due("too soon", liftedPair(FLAM, ACCENT, 15).judge(1), KIND);
        due("an accent behind two", liftedPair(DRAG, ACCENT, 16).judge(1), 1);
        due("too soon", liftedPair(DRAG, ACCENT, 15).judge(1), KIND);
    }

    private void graceDrums() {
        terms("on its DRUM:");
        due("brings the left hand to 1", line(TAP, 0, 2, FLAM, 100, 1).judge(2), 0);
        due("brings the right hand to 3", line(FLAM, 0, 3, TAP, 100, 4).judge(0), 4);
        due("brings the right hand to 4", line(DRAG, 0, 4, TAP, 100, 4).judge(0), 2);
        due("both hands on one drum", line(DRAG, 0, 4).judge(0), 0);
    }

    private void flams() {
        terms("of a FLAM one, 4 TICKS ahead of its TICK");
        StickRoom x = line(FLAM, 50, 0);
        due("strokes", x.of(0, 3), 2);
        due("its grace", x.latest(RIGHT, 0), 46);
        due("20 behind the hand's stroke", line(TAP, 0, 0, FLAM, 24, 0).judge(2), 0);
        due("19 behind it", line(TAP, 0, 0, FLAM, 23, 0).judge(2), KIND);
    }

    private void drags() {
        terms("of a DRAG two, 8 and 4 ahead.");
        StickRoom x = line(DRAG, 50, 0);
        due("strokes", x.of(0, 3), 3);
        due("its latest grace", x.latest(RIGHT, 0), 46);
        due("the first 20 behind the hand's stroke", line(TAP, 0, 0, DRAG, 28, 0).judge(2), 0);
        due("19 behind it", line(TAP, 0, 0, DRAG, 27, 0).judge(2), KIND);
        due("20 behind the second", line(DRAG, 100, 0, TAP, 116, 0).judge(1), 0);
        due("19 behind it", line(DRAG, 100, 0, TAP, 115, 0).judge(1), KIND);
    }

    private void gapLimits() {
        terms("RULES: GAP (0 to 200; 20 at first)");
        due("at first", new StickRoom().rule(GAP, 0), 20);
        due("20 apart", taps(0, 20).judge(0), 3);
        due("19 apart", taps(0, 19).judge(0), KIND);
        due("0", withRule(taps(0, 1), GAP, 0).judge(0), 3);
        due("200, and 200 apart", withRule(taps(0, 200), GAP, 200).judge(0), 2);
        due("200, and 199 apart", withRule(taps(0, 199), GAP, 200).judge(0), KIND);
        due("-1", new StickRoom().rule(GAP, -1), BEYOND);
        due("201", new StickRoom().rule(GAP, 201), BEYOND);
    }

    private static StickRoom lifted(int apart, int lift) {
        StickRoom x = line(TAP, 0, 0, ACCENT, apart, 0);
        x.rule(GAP, 0);
        x.rule(LIFT, lift);
        return x;
    }

    private void liftLimits() {
        terms("LIFT (0 to 100; 8 at first)");
        due("at first", new StickRoom().rule(LIFT, 0), 8);
        due("16 apart", withRule(line(TAP, 0, 0, ACCENT, 16, 0), GAP, 0).judge(3), 3);
        due("15 apart", withRule(line(TAP, 0, 0, ACCENT, 15, 0), GAP, 0).judge(3), KIND);
        due("0", lifted(1, 0).judge(3), 3);
        due("100, and 200 apart", lifted(200, 100).judge(3), 2);
        due("100, and 199 apart", lifted(199, 100).judge(3), KIND);
        due("-1", new StickRoom().rule(LIFT, -1), BEYOND);
        due("101", new StickRoom().rule(LIFT, 101), BEYOND);
    }

    /** The left hand on drum 4, and then the right hand, crossed, as often as told. */
    private static StickRoom crossing(int times) {
        StickRoom x = line(TAP, 0, 4);
        for (int i = 1; i <= times; i++) {
            x.note(TAP, i * 100, 0);
        }
        return x;
    }

    private void crossesLimits() {
        terms("CROSSES (0 to 4; 1 at first)");
        due("at first", new StickRoom().rule(CROSSES, 0), 1);
        due("one", crossing(1).judge(2), 2);
        due("two", crossing(2).judge(6), KIND);
        due("0, and one", withRule(crossing(1), CROSSES, 0).judge(2), KIND);
        due("0, and none", withRule(crossing(1), CROSSES, 0).judge(1), 0);
        due("4, and four", withRule(crossing(4), CROSSES, 4).judge(30), 14);
        due("4, and five", withRule(crossing(5), CROSSES, 4).judge(62), KIND);
        due("-1", new StickRoom().rule(CROSSES, -1), BEYOND);
        due("5", new StickRoom().rule(CROSSES, 5), BEYOND);
    }

    private void fastLimits() {
        terms("FAST (0 to 200; 40 at first).");
        due("at first", new StickRoom().rule(FAST, 0), 40);
        due("40 apart", taps(0, 40).judge(0), 2);
        due("39 apart", taps(0, 39).judge(0), 3);
        due("0", withRule(withRule(taps(0, 1), GAP, 0), FAST, 0).judge(0), 2);
        due("200, and 200 apart", withRule(taps(0, 200), FAST, 200).judge(0), 2);
        due("200, and 199 apart", withRule(taps(0, 199), FAST, 200).judge(0), 3);
        due("-1", new StickRoom().rule(FAST, -1), BEYOND);
        due("201", new StickRoom().rule(FAST, 201), BEYOND);
    }

    private void gaps() {
        terms("From a stroke of a HAND to its next one there must be GAP TICKS at least");
        due("main to main", taps(10, 30).judge(3), 3);
        due("too soon", taps(10, 29).judge(3), KIND);
        due("main to grace", line(TAP, 10, 0, FLAM, 34, 0).judge(1), 0);
        due("too soon", line(TAP, 10, 0, FLAM, 33, 0).judge(1), KIND);
        due("grace to main", line(FLAM, 100, 0, TAP, 116, 0).judge(1), 0);
        due("too soon", line(FLAM, 100, 0, TAP, 115, 0).judge(1), KIND);
        due("grace to grace", line(FLAM, 100, 0, DRAG, 124, 0).judge(3), 6);
        due("too soon", line(FLAM, 100, 0, DRAG, 123, 0).judge(3), KIND);
        due("the other hand is free", taps(10, 11).judge(2), 0);
        due("its next one is two notes on", taps(0, 10, 20).judge(2), 0);
        due("too soon", taps(0, 10, 19).judge(2), KIND);
        due("in the midst of many", taps(0, 20, 40, 59, 80).judge(0), KIND);
    }

    private void lifts() {
        terms("and also at least LIFT times as many as their HEIGHTS differ by (both; not added)");
        due("GAP is more", line(TAP, 0, 0, ACCENT, 20, 0).judge(3), 3);
        due("less than GAP", line(TAP, 0, 0, ACCENT, 19, 0).judge(3), KIND);
        due("LIFT is more", withRule(line(TAP, 0, 0, ACCENT, 30, 0), LIFT, 15).judge(3), 3);
        due("less than LIFT", withRule(line(TAP, 0, 0, ACCENT, 29, 0), LIFT, 15).judge(3), KIND);
        due("down", withRule(line(ACCENT, 0, 0, TAP, 30, 0), LIFT, 15).judge(3), 3);
        due("down too soon", withRule(line(ACCENT, 0, 0, TAP, 29, 0), LIFT, 15).judge(3), KIND);
        due("no lift between equals", withRule(line(ACCENT, 0, 0, ACCENT, 20, 0), LIFT, 100).judge(3), 3);
    }

    private void secondGraces() {
        terms("but the second GRACE of a DRAG may follow its first one at 4.");
        StickRoom x = withRule(line(DRAG, 100, 0), GAP, 200);
        due("whatever GAP is", x.awkward(), 0);
        due("by either hand", x.judge(1), 0);
        due("the first one may not", line(TAP, 0, 0, DRAG, 12, 0).judge(2), KIND);
        due("nor a flam's", line(TAP, 0, 0, FLAM, 8, 0).judge(2), KIND);
        due("nor a main stroke behind it", line(DRAG, 100, 0, TAP, 101, 0).judge(1), KIND);
        due("a drag's first behind a drag's second",
                withRule(line(DRAG, 0, 0, DRAG, 204, 0), GAP, 200).judge(3), 5);
        due("too soon", withRule(line(DRAG, 0, 0, DRAG, 203, 0), GAP, 200).judge(3), KIND);
    }

    private void marksBind() {
        terms("MARKS: a NOTE must be by a HAND.");
        StickRoom x = steady(2, 100);
        x.mark(0, RIGHT);
        x.mark(1, RIGHT);
        due("the first", x.hand(0), RIGHT);
        due("the second", x.hand(1), RIGHT);
        due("price", x.awkward(), 2);
        due("by the marks", x.judge(3), 2);
        due("against the first", x.judge(2), KIND);
        due("against the second", x.judge(1), KIND);
        x.mark(0, -1);
        due("without the first", x.hand(0), LEFT);
    }

    private void note() {
        promise(2, "One more NOTE: its number.");
        StickRoom x = new StickRoom();
        due("the first", x.note(DRAG, 0, 4), 0);
        due("the second", x.note(TAP, 9999, 0), 1);
        due("notes", x.all(0), 2);
        due("no mark", x.all(1), 0);

        promise(2, "BEYOND: no such kind, TICK, or DRUM.");
        x = new StickRoom();
        int[] kinds = {-1, 4, LOWEST, HIGHEST};
        int[] ticks = {-1, 10000, LOWEST, HIGHEST};
        int[] drums = {-1, 5, LOWEST, HIGHEST};
        for (int i = 0; i < 4; i++) {
            due("kind " + kinds[i], x.note(kinds[i], 0, 0), BEYOND);
            due("tick " + ticks[i], x.note(TAP, ticks[i], 0), BEYOND);
            due("drum " + drums[i], x.note(TAP, 0, drums[i]), BEYOND);
        }
        due("none of them", x.all(0), 0);

        promise(2, "SIZE: the TICK is not above the latest NOTE'S.");
        x = taps(10, 20);
        due("equal", x.note(TAP, 20, 0), SIZE);
        due("between", x.note(TAP, 19, 0), SIZE);
        due("0", x.note(TAP, 0, 0), SIZE);
        due("one above", x.note(TAP, 21, 0), 2);
        x.drop();
        x.drop();
        due("equal to the one that is latest now", x.note(TAP, 10, 0), SIZE);
        due("above it", x.note(TAP, 11, 0), 1);
        x.undo();
        x.drop();
        due("none is ahead", x.note(TAP, 0, 0), 0);

        promise(2, "FULL: there are 20.");
        x = steady(19, 10);
        due("there are 19", x.note(TAP, 190, 0), 19);
        due("there are 20", x.note(TAP, 200, 0), FULL);
        due("and stay", x.all(0), 20);
        x.undo();
        due("19 again", x.note(TAP, 200, 0), 19);
    }

    private void drop() {
        promise(3, "The latest NOTE goes (with its MARK): how many there are.");
        StickRoom x = steady(20, 10);
        x.mark(18, LEFT);
        x.mark(19, RIGHT);
        due("of 20", x.drop(), 19);
        due("its mark", x.all(1), 1);
        due("it is gone", x.of(19, 0), BEYOND);
        due("the one ahead stays", x.of(18, 1), 180);
        x.note(TAP, 190, 0);
        due("a new one has no mark", x.mark(19, -1), -1);
        x = taps(5);
        due("the only one", x.drop(), 0);

        promise(3, "NONE.");
        due("a new room", new StickRoom().drop(), NONE);
        due("all have gone", x.drop(), NONE);
        due("nothing is below none", x.all(0), 0);
    }

    private void as() {
        promise(4, "A NOTE as one of a kind: its number.");
        StickRoom x = steady(19, 10);
        x.note(DRAG, 500, 0);
        due("note 19 as a flam", x.as(19, FLAM), 19);
        due("its kind stays", x.of(19, 0), DRAG);
        due("note 0 as a tap", x.as(0, TAP), 0);

        promise(4, "BEYOND: no such NOTE, or kind.");
        due("note 20", x.as(20, TAP), BEYOND);
        for (int wrong : NEVER) {
            due("note " + wrong, x.as(wrong, TAP), BEYOND);
            due("kind " + wrong, x.as(0, wrong), BEYOND);
        }
        due("kind 4", x.as(19, 4), BEYOND);
        due("no notes", new StickRoom().as(0, TAP), BEYOND);
        x.drop();
        due("a dropped one", x.as(19, TAP), BEYOND);

        promise(4, "KIND: it is not of that kind, nor of one under it.");
        x = line(TAP, 0, 0, ACCENT, 100, 0, FLAM, 200, 0, DRAG, 300, 0);
        due("a tap as an accent", x.as(0, ACCENT), KIND);
        due("a tap as a flam", x.as(0, FLAM), KIND);
        due("a flam as a drag", x.as(2, DRAG), KIND);
        due("a drag as an accent", x.as(3, ACCENT), KIND);
        due("a drag is under flam", x.as(3, FLAM), 3);
        due("and so under tap", x.as(3, TAP), 3);
        due("an accent is one", x.as(1, ACCENT), 1);
    }

    private void of() {
        promise(5, "Of a NOTE: 0 its kind, 1 TICK, 2 DRUM, 3 how many strokes.");
        StickRoom x = line(TAP, 0, 4, ACCENT, 1, 3, FLAM, 2, 1, DRAG, 9999, 0);
        int[][] due = {{0, 0, 4, 1}, {1, 1, 3, 1}, {2, 2, 1, 2}, {3, 9999, 0, 3}};
        for (int note = 0; note < 4; note++) {
            for (int what = 0; what < 4; what++) {
                due("of " + note + " what " + what, x.of(note, what), due[note][what]);
            }
        }

        promise(5, "BEYOND: no such NOTE, or another what.");
        due("note 4", x.of(4, 0), BEYOND);
        due("what 4", x.of(3, 4), BEYOND);
        for (int wrong : NEVER) {
            due("note " + wrong, x.of(wrong, 0), BEYOND);
            due("what " + wrong, x.of(0, wrong), BEYOND);
        }
        due("no notes", new StickRoom().of(0, 0), BEYOND);
    }

    private void mark() {
        promise(6, "A MARK of a NOTE (hand -1: none): what it was (-1: none, no finding).");
        StickRoom x = steady(20, 10);
        due("none yet", x.mark(19, LEFT), -1);
        due("left", x.mark(19, LEFT), LEFT);
        due("left", x.mark(19, RIGHT), LEFT);
        due("right", x.mark(19, -1), RIGHT);
        due("none", x.mark(19, -1), -1);
        due("marks", x.all(1), 0);
        due("findings", x.all(4), 0);
        due("of the first note", x.mark(0, RIGHT), -1);
        due("marks", x.all(1), 1);

        promise(6, "BEYOND.");
        due("note 20", x.mark(20, LEFT), BEYOND);
        due("hand 2", x.mark(0, 2), BEYOND);
        due("hand -2", x.mark(0, -2), BEYOND);
        due("no hand of no note", x.mark(20, -1), BEYOND);
        for (int wrong : NEVER) {
            due("note " + wrong, x.mark(wrong, LEFT), BEYOND);
            due("hand " + wrong, x.mark(1, wrong), wrong == -1 ? -1 : BEYOND);
        }
        due("as it was", x.mark(0, RIGHT), RIGHT);
        due("no notes", new StickRoom().mark(0, LEFT), BEYOND);
    }

    private void rule() {
        promise(7, "RULE 0 GAP, 1 LIFT, 2 CROSSES, 3 FAST, 4 WINDOW becomes v: what it was.");
        int[] first = {20, 8, 1, 40, 15};
        int[] most = {200, 100, 4, 200, 100};
        StickRoom x = new StickRoom();
        for (int which = 0; which < 5; which++) {
            due("at first", x.rule(which, most[which]), first[which]);
        }
        for (int which = 0; which < 5; which++) {
            due("at most", x.rule(which, 0), most[which]);
        }
        for (int which = 0; which < 5; which++) {
            due("at least", x.rule(which, 1), 0);
        }

        promise(7, "BEYOND.");
        for (int which = 0; which < 5; which++) {
            int[] values = {-1, most[which] + 1, LOWEST, HIGHEST};
            for (int v : values) {
                due("rule " + which + " as " + v, x.rule(which, v), BEYOND);
            }
            due("as it was", x.rule(which, 1), 1);
        }
        due("rule 5", x.rule(5, 0), BEYOND);
        for (int wrong : NEVER) {
            due("rule " + wrong, x.rule(wrong, 0), BEYOND);
        }
    }
}
