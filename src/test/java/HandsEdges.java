/** Which hands there are for the line, how awkward they are, and which are the hands. */
final class HandsEdges extends Edges {
    HandsEdges(Report report) {
        super(report);
    }

    @Override
    void run() {
        aHandForEach();
        inOrder();
        crossed();
        notStruckYet();
        noMoreThanCrosses();
        sameHand();
        fastHand();
        leftAccents();
        flamsInARow();
        crossedPrice();
        leastAndFirst();
        stuckTerm();
        awkwardCall();
        handCall();
        crossedCall();
        waysCall();
        stuckCall();
        latestCall();
        judgeCall();
    }

    private void dueHands(String what, StickRoom x, int... hands) {
        for (int note = 0; note < hands.length; note++) {
            due(what + ", note " + note, x.hand(note), hands[note]);
        }
    }

    private static StickRoom marked(StickRoom x, int... notesAndHands) {
        for (int i = 0; i + 1 < notesAndHands.length; i += 2) {
            x.mark(notesAndHands[i], notesAndHands[i + 1]);
        }
        return x;
    }

    /** Three taps too near for two hands. */
    private static StickRoom tooNear() {
        return taps(0, 5, 12);
    }

    private void aHandForEach() {
        terms("HANDS for THE LINE: a HAND for each NOTE, by all MARKS");
        StickRoom x = marked(steady(20, 100), 0, RIGHT, 7, RIGHT, 19, RIGHT);
        due("bits of all notes", x.judge((1 << 20) - 1), 38);
        due("against the mark of note 0", x.judge((1 << 20) - 2), KIND);
        due("against the mark of note 7", x.judge((1 << 20) - 1 - (1 << 7)), KIND);
        due("against the mark of note 19", x.judge((1 << 19) - 1), KIND);
        due("no notes", new StickRoom().judge(0), 0);
    }

    private void inOrder() {
        terms("such that strokes of each HAND, in the order of NOTES (of one NOTE GRACES ahead of MAIN), keep these times.");
        int[] graced = {FLAM, DRAG};
        for (int kind : graced) {
            int lead = kind == FLAM ? 4 : 8;
            StickRoom x = line(TAP, 10, 0, kind, 10 + lead, 0);
            x.rule(GAP, 0);
            x.rule(LIFT, 0);
            due("a grace together with its hand's stroke", x.judge(2), 0);
            x = line(TAP, 10, 0, kind, 9 + lead, 0);
            x.rule(GAP, 0);
            x.rule(LIFT, 0);
            due("a grace ahead of its hand's stroke", x.judge(2), KIND);
            due("by the hand that has not struck", x.judge(0), 3);
        }
    }

    private void crossed() {
        terms("CROSSED is a NOTE if, behind it, the right HAND'S latest stroke is on a DRUM left of that of the left HAND'S latest one");
        for (int left = 0; left < 5; left++) {
            for (int right = 0; right < 5; right++) {
                StickRoom x = marked(line(TAP, 0, left, TAP, 100, right), 0, LEFT, 1, RIGHT);
                due("left on " + left + ", then right on " + right, x.crossed(1), right < left ? 1 : 0);
                x = marked(line(TAP, 0, right, TAP, 100, left), 0, RIGHT, 1, LEFT);
                due("right on " + right + ", then left on " + left, x.crossed(1), right < left ? 1 : 0);
            }
        }
        StickRoom x = marked(line(TAP, 0, 3, TAP, 100, 2, TAP, 200, 4, TAP, 300, 1), 0, LEFT, 1, RIGHT, 2, RIGHT, 3, LEFT);
        due("crossed", x.crossed(1), 1);
        due("the right hand is back", x.crossed(2), 0);
        due("the left hand goes left", x.crossed(3), 0);
        x.rule(CROSSES, 4);
        x.mark(2, LEFT);
        due("the left hand goes right", x.crossed(2), 1);
        due("and left of the right one", x.crossed(3), 0);
        x = marked(line(TAP, 0, 3, TAP, 100, 2, FLAM, 200, 4), 0, LEFT, 1, RIGHT, 2, LEFT);
        due("a grace brings the right hand", x.crossed(2), 0);
    }

    private void notStruckYet() {
        terms("(none if one has not struck yet)");
        StickRoom x = marked(line(TAP, 0, 4, TAP, 100, 0), 0, LEFT, 1, LEFT);
        due("the left alone", x.crossed(0), 0);
        due("the left alone", x.crossed(1), 0);
        x = marked(line(TAP, 0, 0, TAP, 100, 0), 0, RIGHT, 1, RIGHT);
        due("the right alone", x.crossed(0), 0);
        due("the right alone", x.crossed(1), 0);
        x = withRule(marked(line(TAP, 0, 4), 0, LEFT), CROSSES, 0);
        due("the first note", x.stuck(), -1);
        x = withRule(line(DRAG, 0, 4), CROSSES, 0);
        due("both by one note", x.awkward(), 0);
    }

    /** Notes by the right hand on drum 0, all crossed, behind one by the left hand on drum 4. */
    private static StickRoom crossings(int times, int most) {
        StickRoom x = line(TAP, 0, 4);
        x.mark(0, LEFT);
        for (int i = 1; i <= times; i++) {
            x.note(TAP, i * 100, 0);
            x.mark(i, RIGHT);
        }
        x.rule(CROSSES, most);
        return x;
    }

    private void noMoreThanCrosses() {
        terms("no more NOTES than CROSSES may be so.");
        for (int most = 0; most <= 4; most++) {
            due("as many", crossings(most, most).stuck(), -1);
            due("one more", crossings(most + 1, most).stuck(), most + 1);
            due("one more", crossings(most + 1, most).judge((1 << (most + 2)) - 2), KIND);
        }
        // Without marks the least awkward hands that cross no more are taken.
        StickRoom x = marked(line(TAP, 0, 4, TAP, 20, 0, TAP, 40, 0), 0, LEFT);
        dueHands("one may cross", x, 0, 1, 0);
        x.rule(CROSSES, 0);
        dueHands("none may cross", x, 0, 0, 1);
    }

    private void sameHand() {
        terms("AWKWARD: for each NOTE but the first: 2 if its HAND is that of the NOTE ahead");
        due("the first", taps(0).judge(0), 0);
        due("the first", taps(0).judge(1), 0);
        due("left, left", steady(2, 100).judge(0), 2);
        due("right, right", steady(2, 100).judge(3), 2);
        due("left, right", steady(2, 100).judge(2), 0);
        due("right, left", steady(2, 100).judge(1), 0);
        due("left, right, right, left", steady(4, 100).judge(6), 2);
        due("20 by the left", steady(20, 100).judge(0), 38);
        due("20 in turn", steady(20, 100).judge(0x55555), 0);
    }

    private void fastHand() {
        terms("1 more if this is so less than FAST TICKS behind that");
        due("39 behind", taps(0, 39).judge(0), 3);
        due("40 behind", taps(0, 40).judge(0), 2);
        due("another hand", taps(0, 39).judge(2), 0);
        due("the note ahead by another hand", taps(0, 10, 20).judge(2), 0);
        due("each of them", taps(0, 20, 40, 80, 119).judge(0), 3 + 3 + 2 + 3);
        due("main strokes, not graces", line(FLAM, 100, 0, FLAM, 139, 0).judge(0), 6);
        due("main strokes, not graces", line(FLAM, 100, 0, DRAG, 140, 0).judge(0), 5);
    }

    private void leftAccents() {
        terms("for each ACCENT by the left HAND 1");
        due("the first note", line(ACCENT, 0, 0).judge(0), 1);
        due("by the right", line(ACCENT, 0, 0).judge(1), 0);
        due("two of three", line(ACCENT, 0, 0, ACCENT, 100, 0, ACCENT, 200, 0).judge(2), 2);
        for (int kind = 0; kind < 4; kind++) {
            due("kind " + kind, line(kind, 0, 0).judge(0), kind == ACCENT ? 1 : 0);
        }
    }

    private void flamsInARow() {
        terms("for each FLAM or DRAG behind a FLAM or DRAG (the NOTE directly ahead) with the same HAND 3");
        int[][] price = {
            {2, 2, 2, 2},
            {2, 2, 2, 2},
            {2, 2, 5, 5},
            {2, 2, 5, 5}};
        for (int a = 0; a < 4; a++) {
            for (int b = 0; b < 4; b++) {
                due("kind " + b + " behind " + a, line(a, 0, 0, b, 100, 0).judge(3), price[a][b]);
            }
        }
        due("by the left", line(FLAM, 0, 0, DRAG, 100, 0).judge(0), 5);
        due("another hand", line(FLAM, 0, 0, DRAG, 100, 0).judge(2), 0);
        due("a tap between", line(FLAM, 0, 0, TAP, 100, 0, FLAM, 200, 0).judge(0), 4);
        due("by one hand, another note between", line(FLAM, 0, 0, TAP, 100, 0, FLAM, 200, 0).judge(2), 0);
        due("each of three", line(FLAM, 0, 0, DRAG, 100, 0, FLAM, 200, 0).judge(0), 10);
    }

    private void crossedPrice() {
        terms("for each NOTE that is CROSSED 2.");
        due("one", crossings(1, 4).judge(2), 2);
        due("three", crossings(3, 4).judge(14), 6 + 4);
        due("four", crossings(4, 4).judge(30), 8 + 6);
        due("a flam by both hands ends it", line(TAP, 0, 4, TAP, 100, 0, FLAM, 200, 2).judge(2), 2);
    }

    private void leastAndFirst() {
        terms("THE HANDS: those least AWKWARD; of several the first, NOTE by NOTE, left ahead of right.");
        dueHands("either hand", taps(0), 0);
        dueHands("an accent is less awkward by the right", line(ACCENT, 0, 0), 1);
        dueHands("in turn, from the left", steady(5, 100), 0, 1, 0, 1, 0);
        dueHands("in turn, to the mark", marked(steady(4, 100), 3, LEFT), 1, 0, 1, 0);
        dueHands("one repeat, as early as can be", marked(steady(4, 100), 0, LEFT, 3, LEFT), 0, 0, 1, 0);
        dueHands("one repeat, as early as can be", marked(steady(4, 100), 0, RIGHT, 3, RIGHT), 1, 0, 0, 1);
        dueHands("not where it is fast", marked(taps(0, 39, 100, 200), 0, LEFT, 3, LEFT), 0, 1, 0, 0);
        dueHands("a repeat costs more than a left accent", line(ACCENT, 0, 0, ACCENT, 100, 0), 0, 1);
        dueHands("more than one at either end", line(ACCENT, 0, 0, TAP, 100, 0, TAP, 200, 0, ACCENT, 300, 0), 0, 1, 0, 1);
        dueHands("two left accents or a repeat",
                marked(line(ACCENT, 0, 0, TAP, 100, 0, ACCENT, 200, 0, TAP, 300, 0), 3, RIGHT), 0, 1, 0, 1);
        dueHands("three left accents or a repeat",
                marked(line(ACCENT, 0, 0, TAP, 100, 0, ACCENT, 200, 0, TAP, 300, 0, ACCENT, 400, 0, TAP, 500, 0), 5, RIGHT),
                1, 0, 1, 0, 1, 1);
        StickRoom x = marked(line(ACCENT, 0, 2, TAP, 30, 0, TAP, 130, 0, FLAM, 230, 2), 3, RIGHT);
        x.rule(CROSSES, 4);
        dueHands("a repeat in the midst ahead of one at the end", x, 1, 0, 0, 1);
        due("these two", x.ways(), 2);
        x = marked(steady(20, 100), 0, LEFT, 19, LEFT);
        due("the second of 20 repeats", x.hand(1), LEFT);
        due("the third goes on in turn", x.hand(2), RIGHT);
    }

    private void stuckTerm() {
        terms("STUCK: the first NOTE up to which (with it) there are no HANDS for the NOTES up to it alone.");
        StickRoom x = tooNear();
        due("the third", x.stuck(), 2);
        x.note(TAP, 500, 0);
        x.note(TAP, 501, 0);
        x.note(TAP, 502, 0);
        due("a later one does not matter", x.stuck(), 2);
        x.rule(GAP, 2);
        due("none", x.stuck(), -1);
        x.rule(GAP, 3);
        due("the last", x.stuck(), 5);
        x = marked(taps(0, 10, 500), 0, LEFT, 1, LEFT);
        due("the second", x.stuck(), 1);
        due("the first never is", marked(line(DRAG, 0, 4), 0, RIGHT).stuck(), -1);
        // The least awkward hands for the first two leave none for the third; others do.
        x = marked(taps(0, 40, 45), 0, LEFT, 2, RIGHT);
        due("hands that are not the least awkward up to there", x.stuck(), -1);
        x = steady(20, 100);
        x.mark(18, RIGHT);
        x.mark(19, RIGHT);
        x.rule(GAP, 101);
        due("the twentieth", x.stuck(), 19);
    }

    private void awkwardCall() {
        promise(8, "How AWKWARD THE HANDS are.");
        due("the least", steady(20, 100).awkward(), 0);
        due("by marks", marked(steady(3, 100), 0, LEFT, 1, LEFT, 2, LEFT).awkward(), 4);
        due("of all kinds", marked(line(FLAM, 0, 1, DRAG, 30, 1, ACCENT, 130, 0), 0, LEFT, 1, LEFT, 2, LEFT).awkward(),
                6 + 3);
        due("and crossed", marked(line(FLAM, 0, 1, ACCENT, 130, 2), 0, LEFT, 1, LEFT).awkward(), 3 + 2);

        promise(8, "NONE: there are no HANDS (0 without NOTES).");
        StickRoom x = tooNear();
        due("too near", x.awkward(), NONE);
        x.drop();
        due("two of them", x.awkward(), 0);
        x.drop();
        due("one of them", x.awkward(), 0);
        x.drop();
        due("without notes", x.awkward(), 0);
        due("a new room", new StickRoom().awkward(), 0);
        due("crossed too often", crossings(2, 1).awkward(), NONE);
        due("marks too near", marked(taps(0, 19), 0, LEFT, 1, LEFT).awkward(), NONE);
    }

    private void handCall() {
        promise(9, "The HAND of a NOTE.");
        StickRoom x = steady(20, 100);
        for (int note = 0; note < 20; note++) {
            due("note " + note, x.hand(note), note % 2);
        }

        promise(9, "BEYOND.");
        due("note 20", x.hand(20), BEYOND);
        for (int wrong : NEVER) {
            due("note " + wrong, x.hand(wrong), BEYOND);
        }
        due("no notes", new StickRoom().hand(0), BEYOND);
        due("no hands either", tooNear().hand(3), BEYOND);

        promise(9, "NONE: there are no HANDS.");
        x = tooNear();
        for (int note = 0; note < 3; note++) {
            due("note " + note, x.hand(note), NONE);
        }
        x.drop();
        due("there are again", x.hand(1), 1);
    }

    private void crossedCall() {
        promise(10, "Whether a NOTE is CROSSED by THE HANDS: 1, 0.");
        StickRoom x = crossings(2, 2);
        due("the first", x.crossed(0), 0);
        due("crossed", x.crossed(1), 1);
        due("still", x.crossed(2), 1);

        promise(10, "BEYOND.");
        due("note 3", x.crossed(3), BEYOND);
        for (int wrong : NEVER) {
            due("note " + wrong, x.crossed(wrong), BEYOND);
        }
        due("no notes", new StickRoom().crossed(0), BEYOND);
        due("no hands either", tooNear().crossed(3), BEYOND);

        promise(10, "NONE.");
        x.rule(CROSSES, 1);
        due("no hands", x.crossed(0), NONE);
        due("no hands", x.crossed(2), NONE);
        x.rule(CROSSES, 2);
        due("there are again", x.crossed(2), 1);
    }

    private void waysCall() {
        promise(11, "How many HANDS are as little AWKWARD.");
        due("without notes", new StickRoom().ways(), 1);
        due("one note", taps(0).ways(), 2);
        due("one accent", line(ACCENT, 0, 0).ways(), 1);
        StickRoom again = taps(0);
        due("asked", again.ways(), 2);
        again.rule(GAP, 21);
        due("asked again behind an act", again.ways(), 2);
        again.drop();
        due("without notes again", again.ways(), 1);
        due("20 in turn", steady(20, 100).ways(), 2);
        due("one repeat in 19 places", marked(steady(20, 100), 0, LEFT, 19, LEFT).ways(), 19);
        // Six times one repeat in three places.
        StickRoom x = steady(20, 100);
        for (int note = 0; note < 20; note += 3) {
            x.mark(note, LEFT);
        }
        due("many", x.ways(), 729);
        due("accents in turn",
                line(ACCENT, 0, 0, ACCENT, 100, 0, ACCENT, 200, 0, ACCENT, 300, 0).ways(), 2);

        promise(11, "NONE.");
        due("no hands", tooNear().ways(), NONE);
        due("crossed too often", crossings(1, 0).ways(), NONE);
    }

    private void stuckCall() {
        promise(12, "STUCK; -1 (no finding): there are HANDS.");
        StickRoom x = new StickRoom();
        due("without notes", x.stuck(), -1);
        due("no finding", x.all(4), 0);
        x = tooNear();
        due("stuck", x.stuck(), 2);
        due("no finding", x.all(4), 0);
        x.drop();
        due("there are hands", x.stuck(), -1);
        due("no finding", x.all(4), 0);
    }

    private void latestCall() {
        promise(13, "The TICK of the latest stroke of a HAND up to a NOTE, with it, by THE HANDS.");
        StickRoom x = marked(line(TAP, 10, 0, FLAM, 100, 0, TAP, 200, 0, DRAG, 300, 0), 0, LEFT, 1, LEFT, 2, LEFT, 3, RIGHT);
        int[] left = {10, 100, 200, 296};
        int[] right = {NONE, 96, 96, 300};
        for (int note = 0; note < 4; note++) {
            due("left", x.latest(LEFT, note), left[note]);
            due("right", x.latest(RIGHT, note), right[note]);
        }
        due("ahead of tick 0", line(FLAM, 0, 0).latest(RIGHT, 0), -4);
        due("ahead of tick 0", line(DRAG, 3, 0).latest(RIGHT, 0), -1);
        due("at the last tick", line(TAP, 9999, 0).latest(LEFT, 0), 9999);

        promise(13, "BEYOND: no such HAND, or NOTE.");
        due("hand 2", x.latest(2, 0), BEYOND);
        due("note 4", x.latest(LEFT, 4), BEYOND);
        for (int wrong : NEVER) {
            due("hand " + wrong, x.latest(wrong, 0), BEYOND);
            due("note " + wrong, x.latest(RIGHT, wrong), BEYOND);
        }
        due("no notes", new StickRoom().latest(LEFT, 0), BEYOND);
        due("no hands either", tooNear().latest(2, 0), BEYOND);

        promise(13, "NONE: there are no HANDS, or it did not strike.");
        due("no hands", tooNear().latest(LEFT, 0), NONE);
        due("the right did not", taps(0).latest(RIGHT, 0), NONE);
        due("the left did not", marked(taps(0), 0, RIGHT).latest(LEFT, 0), NONE);
        x = steady(2, 100);
        due("not up to note 0", x.latest(RIGHT, 0), NONE);
        due("but up to note 1", x.latest(RIGHT, 1), 100);
    }

    private void judgeCall() {
        promise(14, "How AWKWARD told HANDS (bits: NOTE k is by the right HAND if bit k is 1) are.");
        StickRoom x = line(ACCENT, 0, 0, ACCENT, 100, 0, ACCENT, 200, 0);
        int[] price = {7, 4, 2, 3, 4, 1, 3, 4};
        for (int hands = 0; hands < 8; hands++) {
            due("hands " + hands, x.judge(hands), price[hands]);
        }
        due("without notes", new StickRoom().judge(0), 0);

        promise(14, "BEYOND: there are bits of none.");
        due("bit 3", x.judge(8), BEYOND);
        due("bit 31", x.judge(LOWEST), BEYOND);
        due("all bits", x.judge(-1), BEYOND);
        due("all but the sign", x.judge(HIGHEST), BEYOND);
        due("without notes", new StickRoom().judge(1), BEYOND);
        x = steady(20, 100);
        due("bit 19", x.judge(1 << 19), 36);
        due("bit 20", x.judge(1 << 20), BEYOND);
        due("and too fast", withRule(x, GAP, 200).judge(1 << 20), BEYOND);

        promise(14, "KIND: they are no HANDS for THE LINE.");
        due("too near", taps(0, 19).judge(0), KIND);
        due("against a mark", marked(taps(0, 100), 1, LEFT).judge(2), KIND);
        due("crossed too often", crossings(2, 1).judge(6), KIND);
        due("others are", crossings(1, 1).judge(2), 2);
        due("there are none at all", tooNear().judge(2), KIND);
    }
}
