/** A new room, findings and their order, undo, and what all() tells. */
final class WholeEdges extends Edges {
    WholeEdges(Report report) {
        super(report);
    }

    @Override
    void run() {
        manyCalls();
        newObject();
        findings();
        orderOfLine();
        orderOfHands();
        orderOfBasses();
        orderOfTapes();
        orderOfSheets();
        setsByBits();
        undoneActs();
        undoneTapes();
        undoneHands();
        notKept();
        howManyMore();
        undoNone();
        latest20();
        changedNothing();
        counts();
        findingsEver();
        allBeyond();
    }

    private void manyCalls() {
        aside("What it is", "An object is used for at most 512 calls after it has been made");
        StickRoom x = new StickRoom();
        for (int i = 1; i <= 511; i++) {
            x.drop();
        }
        due("the 512th", x.all(4), 511);
        x = new StickRoom();
        for (int i = 0; i < 510; i++) {
            x.rule(FAST, i % 201);
        }
        due("the 511th", x.undo(), 19);
        due("the 512th", x.rule(FAST, 0), 508 % 201);
        x = new StickRoom();
        for (int i = 0; i < 170; i++) {
            x.note(DRAG, 5000, 4);
            x.hit(3, 9999);
            x.undo();
        }
        due("the 511th", x.all(0), 1);
        due("the 512th", x.all(3), 0);
    }

    private void newObject() {
        promise(1, "No NOTES, no MARKS;");
        StickRoom x = new StickRoom();
        due("notes", x.all(0), 0);
        due("marks", x.all(1), 0);
        due("note 0", x.of(0, 0), BEYOND);
        due("nothing to undo", x.undo(), NONE);

        promise(1, "RULES as told;");
        int[] rules = {20, 8, 1, 40, 15};
        for (int which = 0; which < 5; which++) {
            due("rule " + which, x.rule(which, 0), rules[which]);
        }
        due("another room has its own", new StickRoom().rule(GAP, 0), 20);

        promise(1, "all BASSES;");
        due("basses", x.all(2), 31);

        promise(1, "TAPES of no HITS;");
        due("hits", x.all(3), 0);
        for (int player = 0; player < 4; player++) {
            due("player " + player, x.wipe(player), 0);
        }

        promise(1, "sheets MISSING.");
        for (int s = 0; s < 4; s++) {
            due("sheet " + s, x.put(s, 0, 0), MISSING);
        }
        due("no findings but these", new StickRoom().all(4), 0);
    }

    private void findings() {
        terms("FINDINGS are answers below -99999: -100001 BEYOND, -100002 MISSING, -100003 SIZE, -100004 KIND,"
                + " -100005 FULL, -100006 NONE.");
        due("BEYOND", new StickRoom().of(0, 0), -100001);
        due("MISSING", new StickRoom().put(0, 0, 0), -100002);
        due("SIZE", taps(5).note(TAP, 5, 0), -100003);
        due("KIND", taps(5).as(0, ACCENT), -100004);
        due("FULL", steady(20, 1).note(TAP, 20, 0), -100005);
        due("NONE", new StickRoom().drop(), -100006);
    }

    private void orderOfLine() {
        terms("Each act tells its findings in the order in which they are asked");
        StickRoom full = steady(20, 10);
        due("note: kind, then SIZE and FULL", full.note(4, 190, 0), BEYOND);
        due("note: tick, then SIZE and FULL", full.note(TAP, -1, 0), BEYOND);
        due("note: drum, then SIZE and FULL", full.note(TAP, 0, 5), BEYOND);
        due("note: SIZE, then FULL", full.note(TAP, 190, 0), SIZE);
        due("note: FULL", full.note(TAP, 191, 0), FULL);
        due("note: tick, then FULL", full.note(TAP, 10000, 0), BEYOND);
        due("as: kind, then KIND", full.as(0, 4), BEYOND);
        due("as: note, then KIND", full.as(20, ACCENT), BEYOND);
    }

    private void orderOfHands() {
        terms("Each act tells its findings in the order");
        StickRoom stuck = taps(0, 1, 2);
        due("hand", stuck.hand(3), BEYOND);
        due("crossed", stuck.crossed(3), BEYOND);
        due("latest: hand", stuck.latest(2, 0), BEYOND);
        due("latest: note", stuck.latest(LEFT, 3), BEYOND);
        due("judge", stuck.judge(8), BEYOND);
        due("judge, then KIND", stuck.judge(7), KIND);
    }

    private void orderOfBasses() {
        terms("its findings in the order in which they are asked");
        StickRoom none = taps(0, 1, 2);
        onlyBasses(none, 0);
        due("split: to", none.split(0, 3, UP, 0), BEYOND);
        due("split: shape", none.split(0, 2, 3, 0), BEYOND);
        due("split: from above to", none.split(2, 1, UP, 1), BEYOND);
        due("split: note", none.split(0, 1, UP, 2), BEYOND);
        due("split, then NONE", none.split(0, 2, UP, 2), NONE);
        due("has: bass", none.has(0, 2, UP, 5), BEYOND);
        due("has: to", none.has(0, 3, UP, 0), BEYOND);
        due("has: shape", none.has(0, 2, 3, 0), BEYOND);
        due("fast: to", none.fast(0, 3, UP), BEYOND);
        due("fast: shape", none.fast(0, 2, 3), BEYOND);
        due("shape: to", none.shape(0, 3), BEYOND);
        due("shape: from above to", none.shape(1, 0), BEYOND);
    }

    private void orderOfTapes() {
        terms("tells its findings in the order in which they are asked");
        StickRoom full = taps(5);
        for (int i = 0; i < 24; i++) {
            full.hit(1, 100);
        }
        due("hit: player", full.hit(4, 99), BEYOND);
        due("hit: tick, then SIZE and FULL", full.hit(1, -1), BEYOND);
        due("hit: tick, then FULL", full.hit(1, 10000), BEYOND);
        due("hit: SIZE, then FULL", full.hit(1, 99), SIZE);
        due("hit: FULL", full.hit(1, 100), FULL);
        due("read: note", full.read(1, 1), BEYOND);
        due("read: player", full.read(4, 0), BEYOND);
        due("read, then NONE", full.read(1, 0), NONE);
        due("late: note", full.late(1, 1), BEYOND);
        due("late: player", full.late(4, 0), BEYOND);
        due("late, then NONE", full.late(1, 0), NONE);
    }

    private void orderOfSheets() {
        terms("the order in which they are asked");
        StickRoom x = new StickRoom();
        x.sheet(0, 8, 2);
        x.sheet(1, 16, 2);
        due("sheet: sheet, then SIZE", x.sheet(4, 8, -1), BEYOND);
        due("sheet: bits, then SIZE", x.sheet(0, 9, -1), BEYOND);
        due("sheet: SIZE", x.sheet(0, 8, -1), SIZE);
        due("put: sheet", x.put(4, -1, 0), BEYOND);
        due("put: MISSING, then number", x.put(2, -1, 0), MISSING);
        due("put: number", x.put(0, -1, 0), BEYOND);
        due("copy: first sheet, then MISSING", x.copy(4, -1, 2, -1, -1), BEYOND);
        due("copy: second sheet, then MISSING", x.copy(2, -1, 4, -1, -1), BEYOND);
        due("copy: MISSING, then KIND and numbers", x.copy(0, -1, 2, -1, -1), MISSING);
        due("copy: MISSING, then KIND and numbers", x.copy(2, -1, 0, -1, -1), MISSING);
        due("copy: KIND, then numbers", x.copy(0, -1, 1, -1, -1), KIND);
        due("copy: numbers", x.copy(0, -1, 0, -1, -1), BEYOND);
        due("tape: player, then MISSING", x.tape(4, 2), BEYOND);
        due("tape: MISSING", x.tape(0, 2), MISSING);
    }

    private void setsByBits() {
        terms("Sets are told by bits.");
        StickRoom x = steady(3, 100);
        onlyBasses(x, 21);
        due("basses 0, 2 and 4", x.all(2), 21);
        due("right hands on 0 and 2", x.judge(5), 0);
        due("a right hand on 2", x.judge(4), 2);
    }

    private void undoneActs() {
        promise(30, "The latest act that changed the room (note, drop, mark, rule, bass, hit, wipe, tape, without a finding) is undone:");
        StickRoom x = new StickRoom();
        x.note(DRAG, 9999, 4);
        x.undo();
        due("note", x.all(0), 0);
        due("any tick again", x.note(TAP, 0, 0), 0);
        x.note(DRAG, 9999, 4);
        x.mark(1, RIGHT);
        x.drop();
        x.undo();
        due("drop", x.all(0), 2);
        due("its kind", x.of(1, 0), DRAG);
        due("its tick", x.of(1, 1), 9999);
        due("its drum", x.of(1, 2), 4);
        due("its mark", x.all(1), 1);
        x.undo();
        due("mark", x.all(1), 0);
        x.mark(1, LEFT);
        x.mark(1, -1);
        x.undo();
        due("a mark taken away", x.mark(1, RIGHT), LEFT);
        x.undo();
        due("another mark", x.mark(1, LEFT), LEFT);
        for (int which = 0; which < 5; which++) {
            int was = x.rule(which, 3);
            x.rule(which, 4);
            x.undo();
            due("rule", x.rule(which, 2), 3);
            x.undo();
            x.undo();
            due("rule", x.rule(which, 3), was);
        }
        x.bass(4, false);
        x.undo();
        due("bass", x.all(2), 31);
        x.bass(0, false);
        x.bass(0, true);
        x.undo();
        due("bass", x.all(2), 30);
        x.hit(3, 9999);
        x.undo();
        due("hit", x.all(3), 0);
        due("any tick again", x.hit(3, 0), 1);
    }

    private void undoneTapes() {
        promise(30, "wipe, tape, without a finding) is undone");
        StickRoom x = taps(10, 20, 9999);
        x.rule(WINDOW, 0);
        x.sheet(0, 8, 24);
        for (int i = 0; i < 21; i++) {
            x.hit(2, 10);
        }
        hits(x, 2, 15, 20, 9999);
        due("24 hits", x.wipe(2), 24);
        x.hit(2, 1);
        x.undo();
        due("no hits", x.wipe(2), 0);
        x.undo();
        x.undo();
        due("all 24 again", x.all(3), 24);
        due("the first", x.read(2, 0), 0);
        due("number 22", x.read(2, 1), 22);
        due("the last", x.read(2, 2), 23);
        due("24 others", x.tape(2, 0), 24);
        due("none at 9999", x.read(2, 2), NONE);
        x.undo();
        due("the last again", x.read(2, 2), 23);
        x.tape(1, 0);
        x.undo();
        due("an empty tape is empty again", x.wipe(1), 0);
        due("another player's stays", x.all(3), 24);
        due("a sheet is as it was", x.tape(1, 0), 24);
    }

    private void undoneHands() {
        promise(30, "is undone");
        StickRoom x = steady(3, 100);
        x.mark(0, RIGHT);
        due("by the mark", x.hand(0), RIGHT);
        x.undo();
        due("without it", x.hand(0), LEFT);
        x.rule(GAP, 200);
        due("in turn", x.awkward(), 0);
        x.note(TAP, 210, 0);
        due("too near", x.stuck(), 3);
        x.undo();
        due("without it", x.stuck(), -1);
        x.drop();
        due("two", x.latest(LEFT, 1), 0);
        x.undo();
        due("three", x.latest(LEFT, 2), 200);
    }

    private void notKept() {
        promise(30, "(note, drop, mark, rule, bass, hit, wipe, tape, without a finding)");
        StickRoom x = taps(0, 100);
        x.sheet(0, 8, 3);
        x.put(0, 1, 7);
        x.put(0, 2, 8);
        x.copy(0, 0, 0, 1, 1);
        x.of(0, 0);
        x.as(0, TAP);
        x.awkward();
        x.judge(0);
        x.split(0, 1, UP, 0);
        x.price(0);
        x.all(0);
        x.note(TAP, 100, 0);
        x.mark(2, LEFT);
        x.rule(GAP, 201);
        x.bass(5, false);
        x.hit(4, 0);
        x.wipe(4);
        x.tape(0, 1);
        due("only the notes are kept", x.undo(), 1);
        due("one note", x.all(0), 1);
        due("findings", x.all(4), 7);
        due("nothing more", x.undo(), 0);
        dueTicks("the sheet is as it was put", x, 0, 0, 0, 8);
    }

    private void howManyMore() {
        promise(30, "how many more can be.");
        StickRoom x = new StickRoom();
        x.rule(GAP, 1);
        due("none", x.undo(), 0);
        for (int i = 0; i < 20; i++) {
            x.rule(GAP, i);
        }
        for (int more = 19; more >= 0; more--) {
            due("more", x.undo(), more);
        }
        due("as at first", x.rule(GAP, 0), 20);
    }

    private void undoNone() {
        promise(30, "NONE.");
        StickRoom x = new StickRoom();
        due("a new room", x.undo(), NONE);
        x.hit(0, 5);
        x.undo();
        due("undo is not undone", x.undo(), NONE);
        due("no hit", x.all(3), 0);
        x.sheet(0, 8, 1);
        x.put(0, 0, 1);
        due("sheets are not kept", x.undo(), NONE);
        x.drop();
        due("findings are not kept", x.undo(), NONE);
    }

    private void latest20() {
        promise(30, "(The latest 20 are kept;");
        for (int acts = 19; acts <= 43; acts++) {
            StickRoom x = new StickRoom();
            for (int i = 1; i <= acts; i++) {
                x.rule(FAST, i);
            }
            int kept = Math.min(acts, 20);
            for (int more = kept - 1; more >= 0; more--) {
                due(acts + " acts", x.undo(), more);
            }
            due("no more", x.undo(), NONE);
            due("what stands", x.rule(FAST, 0), acts == 19 || acts == 20 ? 40 : acts - 20);
        }
        StickRoom x = new StickRoom();
        for (int i = 0; i < 25; i++) {
            x.hit(0, i);
        }
        due("24 hits and a finding", x.undo(), 19);
        x.hit(0, 50);
        due("20 again", x.undo(), 19);
        for (int more = 18; more >= 0; more--) {
            due("older ones", x.undo(), more);
        }
        due("no more", x.undo(), NONE);
        due("four hits stand", x.wipe(0), 4);
    }

    private void changedNothing() {
        promise(30, "also such as changed nothing.)");
        StickRoom x = taps(0);
        x.mark(0, -1);
        x.rule(GAP, 20);
        x.bass(0, true);
        x.wipe(0);
        x.sheet(0, 8, 0);
        x.tape(0, 0);
        for (int more = 5; more >= 1; more--) {
            due("more", x.undo(), more);
            due("the note stays", x.all(0), 1);
        }
        due("the note", x.undo(), 0);
        due("is gone", x.all(0), 0);
    }

    private void counts() {
        promise(31, "0 NOTES, 1 MARKS, 2 BASSES that are there (as bits), 3 HITS of all TAPES");
        StickRoom x = steady(20, 10);
        x.sheet(0, 8, 24);
        for (int player = 0; player < 4; player++) {
            due("hits", x.all(3), 24 * player);
            x.tape(player, 0);
        }
        due("hits of all", x.all(3), 96);
        due("notes", x.all(0), 20);
        for (int note = 0; note < 20; note++) {
            due("marks", x.all(1), note);
            x.mark(note, note % 2);
        }
        due("marks of all", x.all(1), 20);
        x.mark(7, -1);
        due("one less", x.all(1), 19);
        x.drop();
        due("one less with its note", x.all(1), 18);
        due("all basses", x.all(2), 31);
        for (int bits = 0; bits < 32; bits++) {
            onlyBasses(x, bits);
            due("basses", x.all(2), bits);
        }
    }

    private void findingsEver() {
        promise(31, "4 how many acts answered a finding ever (this one, too, if it does).");
        StickRoom x = new StickRoom();
        due("none", x.all(4), 0);
        due("all itself", x.all(5), BEYOND);
        due("was one", x.all(4), 1);
        x.undo();
        x.drop();
        due("NONE", x.all(4), 3);
        x.put(0, 0, 0);
        due("MISSING", x.all(4), 4);
        x.note(TAP, 0, 0);
        x.note(TAP, 0, 0);
        due("SIZE", x.all(4), 5);
        x.as(0, DRAG);
        due("KIND", x.all(4), 6);
        x.latest(RIGHT, 0);
        due("a question's", x.all(4), 7);
        x.mark(0, -1);
        x.stuck();
        due("-1 is none", x.all(4), 7);
        x.undo();
        x.undo();
        due("undo takes none back", x.all(4), 7);
        for (int i = 0; i < 25; i++) {
            x.hit(0, 5);
        }
        due("FULL", x.all(4), 8);
    }

    private void allBeyond() {
        promise(31, "BEYOND: another what.");
        StickRoom x = new StickRoom();
        due("5", x.all(5), BEYOND);
        for (int wrong : NEVER) {
            due("what " + wrong, x.all(wrong), BEYOND);
        }
        due("4", x.all(4), 6);
    }
}
