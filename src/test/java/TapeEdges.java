/** Tapes of players, and how they are read against the line. */
final class TapeEdges extends Edges {
    TapeEdges(Report report) {
        super(report);
    }

    @Override
    void run() {
        tape();
        inOrder();
        window();
        priceTerm();
        leastPrice();
        matchedAhead();
        lesserHit();
        hit();
        wipe();
        price();
        read();
        late();
        missed();
    }

    /** A room with taps at these ticks that player 0 has hit at those. */
    private static StickRoom played(int[] ticks, int... hits) {
        StickRoom x = taps(ticks);
        hits(x, 0, hits);
        return x;
    }

    private static int[] at(int... ticks) {
        return ticks;
    }

    private void dueReading(String what, StickRoom x, int... hits) {
        for (int note = 0; note < hits.length; note++) {
            due(what + ", note " + note, x.read(0, note), hits[note]);
        }
    }

    private void tape() {
        terms("A TAPE of a PLAYER (0 to 3) is a row of HITS (TICKS, at most 24, none below the one ahead).");
        StickRoom x = new StickRoom();
        for (int player = 0; player < 4; player++) {
            due("a player's own tape", x.hit(player, 50), 1);
        }
        due("player 4", x.hit(4, 50), BEYOND);
        due("as the one ahead", x.hit(3, 50), 2);
        due("below the one ahead", x.hit(3, 49), SIZE);
        due("the last tick", x.hit(3, 9999), 3);
        due("no tick", x.hit(3, 10000), BEYOND);
        for (int hits = 2; hits <= 24; hits++) {
            due("up to 24", x.hit(0, 50), hits);
        }
        due("25", x.hit(0, 50), FULL);
    }

    private void inOrder() {
        terms("READ: some NOTES are matched to HITS, in order (no two crossing, none twice)");
        dueReading("two at one tick", played(at(10, 20), 15, 15), 0, 1);
        dueReading("one hit for two notes", played(at(10, 20), 15), 0, NONE);
        due("one note for two hits", played(at(10), 10, 10).missed(0, true), 1);
        dueReading("each to its own", played(at(10, 20, 30), 9, 21, 30), 0, 1, 2);
        dueReading("a note between has none", withRule(played(at(10, 20, 30), 10, 30), WINDOW, 9), 0, NONE, 1);
    }

    private void window() {
        terms("only such as are no more than WINDOW (0 to 100; 15 at first) apart.");
        due("at first", new StickRoom().rule(WINDOW, 0), 15);
        due("15 late", played(at(100), 115).read(0, 0), 0);
        due("16 late", played(at(100), 116).read(0, 0), NONE);
        due("15 early", played(at(100), 85).read(0, 0), 0);
        due("16 early", played(at(100), 84).read(0, 0), NONE);
        due("0, and in time", withRule(played(at(100), 100), WINDOW, 0).read(0, 0), 0);
        due("0, and 1 late", withRule(played(at(100), 101), WINDOW, 0).read(0, 0), NONE);
        due("0, and 1 early", withRule(played(at(100), 99), WINDOW, 0).read(0, 0), NONE);
        due("79, and 79 late", withRule(played(at(100), 179), WINDOW, 79).read(0, 0), 0);
        due("78, and 79 late", withRule(played(at(100), 179), WINDOW, 78).read(0, 0), NONE);
        due("100", new StickRoom().rule(WINDOW, 100), 15);
        due("101", new StickRoom().rule(WINDOW, 101), BEYOND);
        due("-1", new StickRoom().rule(WINDOW, -1), BEYOND);
    }

    private void priceTerm() {
        terms("PRICE: 40 for each NOTE and each HIT that is not matched, and how far each match is apart.");
        due("no note, no hit", new StickRoom().price(0), 0);
        due("a note", taps(5).price(0), 40);
        due("a hit", played(at(), 5).price(0), 40);
        due("20 notes", steady(20, 10).price(0), 800);
        due("both, not matched", played(at(0), 16).price(0), 80);
        due("late", played(at(0), 15).price(0), 15);
        due("early", played(at(15), 0).price(0), 15);
        due("in time", played(at(15), 15).price(0), 0);
        due("matches and not", played(at(100, 200, 300), 90, 203, 250).price(0), 10 + 3 + 40 + 40);
    }

    private void leastPrice() {
        terms("THE READING: that of the least PRICE;");
        dueReading("the nearer note", played(at(10, 20), 19), NONE, 0);
        dueReading("the nearer hit", played(at(10), 5, 11), 1);
        StickRoom x = withRule(played(at(100), 181), WINDOW, 100);
        due("81 is dearer than two not matched", x.read(0, 0), NONE);
        due("and so 80", x.price(0), 80);
        // Note 0 to hit 1 would be nearest, but then one note and one hit more stay alone.
        x = played(at(10, 20), 5, 11);
        dueReading("both at 5 and 9", x, 0, 1);
        due("price", x.price(0), 14);
        x = withRule(played(at(0, 70), 70, 140), WINDOW, 100);
        dueReading("one in time is less than two at 70", x, NONE, 0);
        due("price", x.price(0), 80);
    }

    private void matchedAhead() {
        terms("of several the first: NOTE by NOTE, one that is matched ahead of one that is not");
        dueReading("the first of two as near", played(at(10, 20), 15), 0, NONE);
        dueReading("80 apart, or not at all", withRule(played(at(0), 80), WINDOW, 100), 0);
        dueReading("80 apart, or not at all", withRule(played(at(80), 0), WINDOW, 80), 0);
        dueReading("the first of three", played(at(10, 20, 30), 15, 25), 0, 1, NONE);
        StickRoom x = withRule(played(at(0, 40), 40, 80), WINDOW, 100);
        dueReading("two at 40, or one in time", x, 0, 1);
        due("price", x.price(0), 80);
    }

    private void lesserHit() {
        terms("to a lesser HIT ahead of a greater one.");
        dueReading("two hits at one tick", played(at(10), 10, 10), 0);
        dueReading("as early as late", played(at(10), 5, 15), 0);
        dueReading("of three as far", played(at(10, 20), 5, 15, 25), 0, 1);
        dueReading("24 at one tick", played(at(7), 7, 7, 7, 7, 7, 7, 7, 7, 7, 7, 7, 7, 7, 7, 7, 7, 7, 7, 7, 7, 7, 7, 7, 7), 0);
        dueReading("the last, behind notes with none", played(at(10, 20, 90), 88, 92), NONE, NONE, 0);
    }

    private void hit() {
        promise(20, "One more HIT on a PLAYER'S TAPE: how many.");
        StickRoom x = new StickRoom();
        due("the first", x.hit(3, 0), 1);
        due("the second", x.hit(3, 9999), 2);
        due("another tape", x.hit(0, 1), 1);
        due("hits", x.all(3), 3);

        promise(20, "BEYOND: no such PLAYER, or TICK.");
        due("player 4", x.hit(4, 9999), BEYOND);
        due("tick 10000", x.hit(3, 10000), BEYOND);
        due("tick -1", x.hit(1, -1), BEYOND);
        for (int wrong : NEVER) {
            due("player " + wrong, x.hit(wrong, 9999), BEYOND);
        }
        due("tick", x.hit(1, LOWEST), BEYOND);
        due("tick", x.hit(1, HIGHEST), BEYOND);

        promise(20, "SIZE: it is below the latest one.");
        x = new StickRoom();
        hits(x, 1, 10, 20);
        due("one below", x.hit(1, 19), SIZE);
        due("0", x.hit(1, 0), SIZE);
        due("the same", x.hit(1, 20), 3);
        due("one above", x.hit(1, 21), 4);
        due("another tape has none", x.hit(2, 0), 1);
        x.wipe(1);
        due("none is ahead", x.hit(1, 0), 1);

        promise(20, "FULL: there are 24.");
        x = new StickRoom();
        for (int i = 0; i < 23; i++) {
            x.hit(2, i);
        }
        due("there are 23", x.hit(2, 23), 24);
        due("there are 24", x.hit(2, 24), FULL);
        due("another tape is not full", x.hit(1, 24), 1);
        due("hits", x.all(3), 25);
        x.undo();
        x.undo();
        due("23 again", x.hit(2, 30), 24);
    }

    private void wipe() {
        promise(21, "A PLAYER'S TAPE has no HITS: how many it had.");
        StickRoom x = new StickRoom();
        due("none", x.wipe(0), 0);
        for (int i = 0; i < 24; i++) {
            x.hit(3, 100);
        }
        x.hit(2, 5);
        due("24", x.wipe(3), 24);
        due("none any more", x.wipe(3), 0);
        due("another one stays", x.all(3), 1);
        due("a tick ahead", x.hit(3, 0), 1);

        promise(21, "BEYOND.");
        due("player 4", x.wipe(4), BEYOND);
        for (int wrong : NEVER) {
            due("player " + wrong, x.wipe(wrong), BEYOND);
        }
        due("as they were", x.all(3), 2);
    }

    private void price() {
        promise(22, "PRICE of THE READING.");
        StickRoom x = steady(20, 10);
        for (int i = 0; i < 24; i++) {
            x.hit(3, i * 10);
        }
        due("20 notes, 24 hits", x.price(3), 160);
        due("20 notes, no hits", x.price(2), 800);
        x = new StickRoom();
        for (int i = 0; i < 24; i++) {
            x.hit(1, i * 10);
        }
        due("no notes, 24 hits", x.price(1), 960);
        due("no notes, no hits", x.price(0), 0);
        x = steady(20, 10);
        for (int i = 0; i < 24; i++) {
            x.hit(0, 9000 + i);
        }
        due("the highest", x.price(0), 800 + 960);

        promise(22, "BEYOND.");
        due("player 4", x.price(4), BEYOND);
        for (int wrong : NEVER) {
            due("player " + wrong, x.price(wrong), BEYOND);
        }
    }

    private void read() {
        promise(23, "The HIT that is matched to a NOTE by THE READING.");
        StickRoom x = steady(20, 100);
        for (int i = 0; i < 24; i++) {
            x.hit(3, i < 5 ? 40 + i : (i - 4) * 100);
        }
        due("note 0 has none", x.read(3, 0), NONE);
        due("note 1", x.read(3, 1), 5);
        due("note 19", x.read(3, 19), 23);

        promise(23, "BEYOND.");
        due("note 20", x.read(3, 20), BEYOND);
        due("player 4", x.read(4, 0), BEYOND);
        for (int wrong : NEVER) {
            due("player " + wrong, x.read(wrong, 0), BEYOND);
            due("note " + wrong, x.read(3, wrong), BEYOND);
        }
        due("no notes", new StickRoom().read(0, 0), BEYOND);

        promise(23, "NONE: the NOTE is not matched.");
        due("no hits", x.read(0, 0), NONE);
        due("no hits", x.read(0, 19), NONE);
        due("none near", played(at(100, 200), 150).read(0, 1), NONE);
        due("another has it", played(at(100, 110), 105).read(0, 1), NONE);
    }

    private void late() {
        promise(24, "How late a NOTE was by THE READING (below 0: early).");
        due("15 late", played(at(100), 115).late(0, 0), 15);
        due("in time", played(at(100), 100).late(0, 0), 0);
        due("15 early", played(at(100), 85).late(0, 0), -15);
        due("80 early", withRule(played(at(80), 0), WINDOW, 80).late(0, 0), -80);
        due("80 late, at the end", withRule(played(at(9919), 9999), WINDOW, 100).late(0, 0), 80);
        StickRoom x = played(at(100, 200), 85);
        due("-1 is no finding", played(at(100), 99).late(0, 0), -1);
        due("early", x.late(0, 0), -15);
        due("no finding", x.all(4), 0);

        promise(24, "BEYOND.");
        due("note 2", x.late(0, 2), BEYOND);
        due("player 4", x.late(4, 0), BEYOND);
        for (int wrong : NEVER) {
            due("player " + wrong, x.late(wrong, 0), BEYOND);
            due("note " + wrong, x.late(0, wrong), BEYOND);
        }
        due("no notes", new StickRoom().late(0, 0), BEYOND);

        promise(24, "NONE.");
        due("not matched", x.late(0, 1), NONE);
        due("no hits", x.late(1, 0), NONE);
        due("beyond WINDOW", played(at(100), 116).late(0, 0), NONE);
    }

    private void missed() {
        promise(25, "How many NOTES (extra: HITS) are not matched by THE READING.");
        StickRoom x = new StickRoom();
        due("no notes", x.missed(0, false), 0);
        due("no hits", x.missed(0, true), 0);
        x = steady(20, 10);
        due("all notes", x.missed(0, false), 20);
        due("no hits", x.missed(0, true), 0);
        for (int i = 0; i < 24; i++) {
            x.hit(0, i * 10);
        }
        due("no note", x.missed(0, false), 0);
        due("4 hits", x.missed(0, true), 4);
        x = new StickRoom();
        hits(x, 2, 1, 2, 3);
        due("no notes", x.missed(2, false), 0);
        due("all hits", x.missed(2, true), 3);

        promise(25, "BEYOND.");
        due("player 4", x.missed(4, false), BEYOND);
        due("player 4", x.missed(4, true), BEYOND);
        for (int wrong : NEVER) {
            due("player " + wrong, x.missed(wrong, false), BEYOND);
            due("player " + wrong, x.missed(wrong, true), BEYOND);
        }
    }
}
