/** Basses, and runs split over them. */
final class BassEdges extends Edges {
    private static final int[][] WRITTEN = {
        {0, 1, 2, 3, 4, 0, 1, 2, 3, 4, 0, 1, 2, 3, 4, 0, 1, 2, 3, 4},
        {4, 3, 2, 1, 0, 4, 3, 2, 1, 0, 4, 3, 2, 1, 0, 4, 3, 2, 1, 0},
        {0, 1, 2, 3, 4, 3, 2, 1, 0, 1, 2, 3, 4, 3, 2, 1, 0, 1, 2, 3}};

    BassEdges(Report report) {
        super(report);
    }

    @Override
    void run() {
        there();
        up();
        down();
        upAndDown();
        fromTheFirst();
        nextLower();
        nextHigher();
        tooFast();
        latestInRun();
        bass();
        split();
        has();
        fast();
        shape();
    }

    private void there() {
        terms("BASSES 0 to 4 are there, or not (all are at first).");
        StickRoom x = new StickRoom();
        due("all", x.all(2), 31);
        due("bass -1", x.bass(-1, false), BEYOND);
        due("bass 5", x.bass(5, false), BEYOND);
        for (int bass = 0; bass < 5; bass++) {
            due("goes", x.bass(bass, false), 1);
            due("the rest", x.all(2), 31 & ~((2 << bass) - 1));
        }
        due("comes", x.bass(4, true), 1);
        due("alone", x.all(2), 16);
    }

    private void dueShape(int shape) {
        StickRoom x = steady(20, 10);
        for (int note = 0; note < 20; note++) {
            due("note " + note, x.split(0, 19, shape, note), WRITTEN[shape][note]);
        }
    }

    private void up() {
        terms("A RUN splits NOTES from one to another one over them by a SHAPE: 0 up (0, 1, 2, 3, 4, 0, ..)");
        dueShape(UP);
    }

    private void down() {
        terms("1 down (4, 3, .., 0, 4, ..)");
        dueShape(DOWN);
    }

    private void upAndDown() {
        terms("2 up and down (0, 1, 2, 3, 4, 3, 2, 1, 0, 1, ..)");
        dueShape(UP_AND_DOWN);
    }

    private void fromTheFirst() {
        terms("NOTE by NOTE from the first one on");
        StickRoom x = steady(20, 10);
        for (int shape = 0; shape < 3; shape++) {
            for (int from = 0; from < 20; from++) {
                due("the first of a run", x.split(from, 19, shape, from), WRITTEN[shape][0]);
                due("the last of a run", x.split(from, 19, shape, 19), WRITTEN[shape][19 - from]);
            }
        }
    }

    /** Whose a run of the shape up is while only some basses are there. */
    private void dueOwners(int there, int... owners) {
        StickRoom x = steady(5, 10);
        onlyBasses(x, there);
        for (int bass = 0; bass < 5; bass++) {
            due("what is bass " + bass + "'s of " + there, x.split(0, 4, UP, bass), owners[bass]);
        }
    }

    private void nextLower() {
        terms("what is a BASS'S that is not there is the next lower one's that is");
        dueOwners(31, 0, 1, 2, 3, 4);
        dueOwners(15, 0, 1, 2, 3, 3);
        dueOwners(29, 0, 0, 2, 3, 4);
        dueOwners(17, 0, 0, 0, 0, 4);
        dueOwners(21, 0, 0, 2, 2, 4);
        dueOwners(1, 0, 0, 0, 0, 0);
        StickRoom x = steady(5, 10);
        onlyBasses(x, 21);
        int[] down = {4, 2, 2, 0, 0};
        for (int note = 0; note < 5; note++) {
            due("down, note " + note, x.split(0, 4, DOWN, note), down[note]);
        }
    }

    private void nextHigher() {
        terms("without such the next higher one's.");
        dueOwners(30, 1, 1, 2, 3, 4);
        dueOwners(10, 1, 1, 1, 3, 3);
        dueOwners(24, 3, 3, 3, 3, 4);
        dueOwners(20, 2, 2, 2, 2, 4);
        dueOwners(16, 4, 4, 4, 4, 4);
    }

    private void tooFast() {
        terms("TOO FAST: how many NOTES of a RUN come less than 2 times GAP behind");
        due("39 behind", taps(0, 1, 2, 3, 4, 39).fast(0, 5, UP), 1);
        due("40 behind", taps(0, 1, 2, 3, 4, 40).fast(0, 5, UP), 0);
        due("GAP 0", withRule(steady(20, 1), GAP, 0).fast(0, 19, UP), 0);
        due("GAP 200, 399 behind", withRule(taps(0, 1, 2, 3, 4, 399), GAP, 200).fast(0, 5, UP), 1);
        due("GAP 200, 400 behind", withRule(taps(0, 1, 2, 3, 4, 400), GAP, 200).fast(0, 5, UP), 0);
        due("GAP 1, 2 behind", withRule(alone(2, 3), GAP, 1).fast(0, 2, UP), 0);
        due("GAP 1, 1 behind", withRule(alone(1, 3), GAP, 1).fast(0, 2, UP), 2);
        due("all but the first", alone(1, 20).fast(0, 19, DOWN), 19);
    }

    /** Taps with bass 2 alone there. */
    private static StickRoom alone(int step, int notes) {
        StickRoom x = steady(notes, step);
        onlyBasses(x, 4);
        return x;
    }

    private void latestInRun() {
        terms("the latest NOTE that the same BASS has in it.");
        due("behind the latest, not the first", alone(30, 3).fast(0, 2, UP), 2);
        StickRoom x = taps(0, 1, 2, 3, 4, 5);
        due("note 0 is in it", x.fast(0, 5, UP), 1);
        due("note 0 is not in it", x.fast(1, 5, UP), 0);
        due("note 5 is not in it", x.fast(0, 4, UP), 0);
        due("3 twice", x.fast(0, 5, UP_AND_DOWN), 1);
        x.note(TAP, 6, 0);
        due("0 1 2 3 4 3 from note 1 on", x.fast(1, 6, UP_AND_DOWN), 1);
        due("0 1 2 3 4 from note 2 on", x.fast(2, 6, UP_AND_DOWN), 0);
        x.bass(0, false);
        due("1 for 0 and 1", x.fast(0, 1, UP), 1);
        due("down: 4 3 2 1 1", x.fast(0, 4, DOWN), 1);
    }

    private void bass() {
        promise(15, "A BASS is there, or not: 1 if that is new, else 0.");
        StickRoom x = new StickRoom();
        for (int bass = 0; bass < 5; bass++) {
            due("is there", x.bass(bass, true), 0);
            due("goes", x.bass(bass, false), 1);
            due("is gone", x.bass(bass, false), 0);
        }
        due("none", x.all(2), 0);
        due("comes", x.bass(2, true), 1);
        due("is there", x.bass(2, true), 0);
        due("alone", x.all(2), 4);

        promise(15, "BEYOND.");
        due("bass 5", x.bass(5, true), BEYOND);
        for (int wrong : NEVER) {
            due("bass " + wrong, x.bass(wrong, true), BEYOND);
            due("bass " + wrong, x.bass(wrong, false), BEYOND);
        }
        // Bass 32 would have the bit of bass 0.
        due("bass 32", x.bass(32, true), BEYOND);
        due("as they were", x.all(2), 4);
    }

    private void split() {
        promise(16, "The BASS that has a NOTE of a RUN.");
        StickRoom x = steady(20, 10);
        due("one note", x.split(19, 19, DOWN, 19), 4);
        due("the whole line", x.split(0, 19, UP, 19), 4);

        promise(16, "BEYOND: no such NOTES, SHAPE, from above to, or note not from from to to.");
        due("to 20", x.split(0, 20, UP, 0), BEYOND);
        due("from 20", x.split(20, 20, UP, 20), BEYOND);
        due("shape 3", x.split(0, 19, 3, 0), BEYOND);
        due("from above to", x.split(1, 0, UP, 0), BEYOND);
        due("from above to", x.split(1, 0, UP, 1), BEYOND);
        due("from above to", x.split(19, 18, UP, 19), BEYOND);
        due("a note ahead of from", x.split(5, 10, UP, 4), BEYOND);
        due("a note behind to", x.split(5, 10, UP, 11), BEYOND);
        due("from", x.split(5, 10, UP, 5), 0);
        due("to", x.split(5, 10, UP, 10), 0);
        for (int wrong : NEVER) {
            due("from " + wrong, x.split(wrong, 3, UP, 0), BEYOND);
            due("to " + wrong, x.split(0, wrong, UP, 0), BEYOND);
            due("shape " + wrong, x.split(0, 3, wrong, 0), BEYOND);
            due("note " + wrong, x.split(0, 3, UP, wrong), BEYOND);
        }
        due("no notes", new StickRoom().split(0, 0, UP, 0), BEYOND);

        promise(16, "NONE: no BASS is there.");
        onlyBasses(x, 0);
        due("none", x.split(0, 3, UP, 0), NONE);
        due("none", x.split(19, 19, UP_AND_DOWN, 19), NONE);
        x.bass(3, true);
        due("one", x.split(0, 3, UP, 0), 3);
    }

    private void has() {
        promise(17, "How many NOTES of a RUN a BASS has.");
        int[][] of20 = {{4, 4, 4, 4, 4}, {4, 4, 4, 4, 4}, {3, 5, 5, 5, 2}};
        StickRoom x = steady(20, 10);
        for (int shape = 0; shape < 3; shape++) {
            for (int bass = 0; bass < 5; bass++) {
                due("shape " + shape + " bass " + bass, x.has(0, 19, shape, bass), of20[shape][bass]);
            }
        }
        due("one note", x.has(7, 7, UP, 0), 1);
        due("not its", x.has(7, 7, UP, 1), 0);
        onlyBasses(x, 18);
        due("not there", x.has(0, 19, UP, 0), 0);
        due("the next higher and lower", x.has(0, 19, UP, 1), 16);
        due("its own", x.has(0, 19, UP, 4), 4);

        promise(17, "BEYOND: no such BASS, or as of split().");
        due("bass 5", x.has(0, 19, UP, 5), BEYOND);
        due("to 20", x.has(0, 20, UP, 0), BEYOND);
        due("from 20", x.has(20, 20, UP, 0), BEYOND);
        due("from above to", x.has(1, 0, UP, 0), BEYOND);
        due("shape 3", x.has(0, 19, 3, 0), BEYOND);
        for (int wrong : NEVER) {
            due("bass " + wrong, x.has(0, 3, UP, wrong), BEYOND);
            due("from " + wrong, x.has(wrong, 3, UP, 0), BEYOND);
            due("to " + wrong, x.has(0, wrong, UP, 0), BEYOND);
            due("shape " + wrong, x.has(0, 3, wrong, 0), BEYOND);
        }
        due("no notes", new StickRoom().has(0, 0, UP, 0), BEYOND);

        promise(17, "NONE: no BASS is there.");
        onlyBasses(x, 0);
        for (int bass = 0; bass < 5; bass++) {
            due("none", x.has(0, 19, UP, bass), NONE);
        }
        x.bass(4, true);
        due("one", x.has(0, 19, UP, 4), 20);
    }

    private void fast() {
        promise(18, "TOO FAST.");
        due("one note", steady(1, 1).fast(0, 0, UP), 0);
        StickRoom x = steady(20, 1);
        due("up", x.fast(0, 19, UP), 15);
        due("down", x.fast(0, 19, DOWN), 15);
        due("up and down", x.fast(0, 19, UP_AND_DOWN), 15);
        due("five", x.fast(3, 7, UP), 0);
        due("six", x.fast(3, 8, UP), 1);

        promise(18, "BEYOND: as of split().");
        due("to 20", x.fast(0, 20, UP), BEYOND);
        due("from 20", x.fast(20, 20, UP), BEYOND);
        due("from above to", x.fast(1, 0, UP), BEYOND);
        due("shape 3", x.fast(0, 19, 3), BEYOND);
        for (int wrong : NEVER) {
            due("from " + wrong, x.fast(wrong, 3, UP), BEYOND);
            due("to " + wrong, x.fast(0, wrong, UP), BEYOND);
            due("shape " + wrong, x.fast(0, 3, wrong), BEYOND);
        }
        due("no notes", new StickRoom().fast(0, 0, UP), BEYOND);

        promise(18, "NONE: no BASS is there.");
        onlyBasses(x, 0);
        due("none", x.fast(0, 19, UP), NONE);
        due("none, one note", x.fast(0, 0, UP), NONE);
        x.bass(0, true);
        due("one", x.fast(0, 19, UP), 19);
    }

    private void shape() {
        promise(19, "The least SHAPE by which a RUN is least TOO FAST.");
        due("all alike", steady(5, 1).shape(0, 4), UP);
        due("one note", steady(1, 1).shape(0, 0), UP);
        due("up and down alone", withRule(steady(9, 10), GAP, 30).shape(0, 8), UP_AND_DOWN);
        StickRoom x = steady(3, 10);
        x.bass(0, false);
        due("down alone: 4 3 2", x.shape(0, 2), DOWN);
        due("down alone: 4 3 2", x.fast(0, 2, DOWN), 0);
        // Up: 1 1 2 3 4 1 1 2 3 4, down: 4 3 2 1 1 4 3 2 1 1, up and down: 1 1 2 3 4 3 2 1 1 1.
        x = taps(0, 10, 110, 210, 220, 320, 330, 430, 530, 630);
        x.bass(0, false);
        due("up", x.fast(0, 9, UP), 2);
        due("down", x.fast(0, 9, DOWN), 1);
        due("up and down", x.fast(0, 9, UP_AND_DOWN), 1);
        due("the lesser of down, and up and down", x.shape(0, 9), DOWN);

        promise(19, "BEYOND.");
        due("to 10", x.shape(0, 10), BEYOND);
        due("from 10", x.shape(10, 10), BEYOND);
        due("from above to", x.shape(1, 0), BEYOND);
        for (int wrong : NEVER) {
            due("from " + wrong, x.shape(wrong, 3), BEYOND);
            due("to " + wrong, x.shape(0, wrong), BEYOND);
        }
        due("no notes", new StickRoom().shape(0, 0), BEYOND);

        promise(19, "NONE: no BASS is there.");
        onlyBasses(x, 0);
        due("none", x.shape(0, 9), NONE);
        due("none, one note", x.shape(9, 9), NONE);
        x.bass(1, true);
        due("one", x.shape(0, 9), UP);
    }
}
