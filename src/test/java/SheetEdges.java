/** Sheets of numbers, and tapes made of them. */
final class SheetEdges extends Edges {
    private static final int NO_TICK = -1;

    SheetEdges(Report report) {
        super(report);
    }

    @Override
    void run() {
        sheets();
        sheet();
        put();
        putLowestBits();
        copy();
        copyBeyond();
        tape();
        tapeStops();
    }

    private static StickRoom filled(int bits, int... numbers) {
        StickRoom x = new StickRoom();
        x.sheet(0, bits, numbers.length);
        fill(x, 0, numbers);
        return x;
    }

    private void sheets() {
        terms("SHEETS 0 to 3 are rows of up to 24 numbers of 8, 16 or 32 bits, or MISSING (all, at first).");
        StickRoom x = new StickRoom();
        int[] bits = {8, 16, 32, 32};
        for (int s = 0; s < 4; s++) {
            due("at first", x.put(s, 0, 0), MISSING);
            due("24 numbers", x.sheet(s, bits[s], 24), 24);
            due("the last", x.put(s, 23, 0), 0);
            due("no more", x.put(s, 24, 0), BEYOND);
            due("25", x.sheet(s, bits[s], 25), BEYOND);
        }
        due("sheet 4", x.sheet(4, 8, 1), BEYOND);
    }

    private void sheet() {
        promise(26, "A sheet has n numbers, all 0, of 8, 16 or 32 bits; bits 0: it is MISSING: n (0).");
        StickRoom x = new StickRoom();
        int[] widths = {8, 16, 32};
        for (int bits : widths) {
            due("no numbers", x.sheet(1, bits, 0), 0);
            due("is there", x.tape(0, 1), 0);
            due("has none", x.put(1, 0, 0), BEYOND);
            due("one", x.sheet(1, bits, 1), 1);
            due("24", x.sheet(1, bits, 24), 24);
            due("all 0", x.tape(0, 1), 24);
        }
        due("missing", x.sheet(1, 0, 0), 0);
        due("is missing", x.put(1, 0, 0), MISSING);
        due("still", x.sheet(1, 0, 0), 0);
        due("of no numbers, whatever n is", x.sheet(1, 0, 24), 0);
        due("is missing", x.tape(0, 1), MISSING);
        x = filled(8, 5, 6, 7);
        due("made anew", x.sheet(0, 8, 3), 3);
        dueTicks("all 0", x, 0, 0, 0, 0);
        fill(x, 0, 5, 6, 7);
        x.sheet(0, 8, 1);
        x.sheet(0, 8, 3);
        dueTicks("all 0, also those that were away", x, 0, 0, 0, 0);
        fill(x, 0, 5, 6, 7);
        x.sheet(0, 0, 0);
        x.sheet(0, 8, 3);
        dueTicks("all 0 after it was missing", x, 0, 0, 0, 0);
        fill(x, 0, 5, 6, 7);
        x.sheet(1, 8, 3);
        dueTicks("another one stays", x, 0, 5, 6, 7);

        promise(26, "BEYOND: no such sheet, or bits.");
        due("sheet 4", x.sheet(4, 8, 3), BEYOND);
        due("sheet 4, missing", x.sheet(4, 0, 0), BEYOND);
        for (int wrong : NEVER) {
            due("sheet " + wrong, x.sheet(wrong, 8, 3), BEYOND);
            due("bits " + wrong, x.sheet(0, wrong, 3), BEYOND);
        }
        int[] bits = {-8, 1, 4, 7, 9, 15, 17, 24, 31, 33, 64};
        for (int wrong : bits) {
            due("bits " + wrong, x.sheet(0, wrong, 3), BEYOND);
        }

        promise(26, "SIZE: n is below 0.");
        for (int width : widths) {
            due("-1", x.sheet(0, width, -1), SIZE);
            due("far below", x.sheet(0, width, LOWEST), SIZE);
        }
        dueTicks("as it was", x, 0, 5, 6, 7);

        promise(26, "BEYOND: n is above 24.");
        for (int width : widths) {
            due("25", x.sheet(0, width, 25), BEYOND);
            due("far above", x.sheet(0, width, HIGHEST), BEYOND);
        }
        dueTicks("as it was", x, 0, 5, 6, 7);
        due("24", x.sheet(0, 8, 24), 24);
    }

    private void put() {
        promise(27, "Number i of a sheet becomes v (its lowest bits): 0.");
        StickRoom x = filled(16, 5, 10, 9999);
        dueTicks("as put", x, 0, 5, 10, 9999);
        due("the last", x.put(0, 2, 10), 0);
        due("the first", x.put(0, 0, 0), 0);
        dueTicks("as put", x, 0, 0, 10, 10);

        promise(27, "BEYOND: no such sheet.");
        due("sheet 4", x.put(4, 0, 0), BEYOND);
        for (int wrong : NEVER) {
            due("sheet " + wrong, x.put(wrong, 0, 0), BEYOND);
        }

        promise(27, "MISSING.");
        due("missing", x.put(1, 0, 0), MISSING);
        due("no number either", x.put(1, -1, 0), MISSING);
        x.sheet(0, 0, 0);
        due("missing again", x.put(0, 0, 0), MISSING);

        promise(27, "BEYOND: no such number.");
        x = filled(8, 1, 2, 3);
        due("number 3", x.put(0, 3, 9), BEYOND);
        for (int wrong : NEVER) {
            due("number " + wrong, x.put(0, wrong, 9), BEYOND);
        }
        x.sheet(1, 8, 0);
        due("number 0 of none", x.put(1, 0, 9), BEYOND);
        x.sheet(1, 8, 24);
        due("number 23", x.put(1, 23, 0), 0);
        due("number 24", x.put(1, 24, 0), BEYOND);
        dueTicks("as it was", x, 0, 1, 2, 3);
    }

    /** The tick that a number is when it is put as v on a sheet of some bits, or none. */
    private void duePut(int bits, int v, int tick) {
        String what = v + " on " + bits + " bits";
        StickRoom x = filled(bits, v);
        if (tick == NO_TICK) {
            due(what, x.tape(0, 0), 0);
        } else {
            dueTicks(what, x, 0, tick);
        }
    }

    private void putLowestBits() {
        promise(27, "(its lowest bits)");
        duePut(8, 0, 0);
        duePut(8, 127, 127);
        duePut(8, 128, NO_TICK);
        duePut(8, 255, NO_TICK);
        duePut(8, 256, 0);
        duePut(8, 256 + 127, 127);
        duePut(8, 9999, 15);
        duePut(8, -1, NO_TICK);
        duePut(8, -128, NO_TICK);
        duePut(8, -129, 127);
        duePut(8, -256, 0);
        duePut(8, LOWEST, 0);
        duePut(8, HIGHEST, NO_TICK);
        duePut(16, 9999, 9999);
        duePut(16, 10000, NO_TICK);
        duePut(16, 32767, NO_TICK);
        duePut(16, 32768, NO_TICK);
        duePut(16, 65535, NO_TICK);
        duePut(16, 65536, 0);
        duePut(16, 65536 + 9999, 9999);
        duePut(16, -1, NO_TICK);
        duePut(16, -65536 + 300, 300);
        duePut(16, LOWEST, 0);
        duePut(16, HIGHEST, NO_TICK);
        duePut(32, 9999, 9999);
        duePut(32, 10000, NO_TICK);
        duePut(32, 65536, NO_TICK);
        duePut(32, -1, NO_TICK);
        duePut(32, LOWEST, NO_TICK);
        duePut(32, HIGHEST, NO_TICK);
    }

    /** Sheets 0 and 1 of 8 bits with 1 2 3 4 5 and 10 20 30, sheet 2 of 16 bits, sheet 3 missing. */
    private static StickRoom library() {
        StickRoom x = filled(8, 1, 2, 3, 4, 5);
        x.sheet(1, 8, 3);
        fill(x, 1, 10, 20, 30);
        x.sheet(2, 16, 3);
        return x;
    }

    private void copy() {
        promise(28, "n numbers of a sheet from one on come to another one from one on: n.");
        StickRoom x = library();
        due("the last two", x.copy(0, 3, 1, 0, 2), 2);
        dueTicks("in front", x, 1, 4, 5, 30);
        dueTicks("as they were", x, 0, 1, 2, 3, 4, 5);
        x = library();
        due("all that it has room for", x.copy(0, 0, 1, 0, 3), 3);
        dueTicks("all", x, 1, 1, 2, 3);
        x = library();
        due("none", x.copy(0, 2, 1, 1, 0), 0);
        due("none at the ends", x.copy(0, 5, 1, 3, 0), 0);
        dueTicks("as they were", x, 1, 10, 20, 30);
        due("upwards on one sheet", x.copy(0, 0, 0, 1, 4), 4);
        dueTicks("as if at once", x, 0, 1, 1, 2, 3, 4);
        x = library();
        due("downwards on one sheet", x.copy(0, 1, 0, 0, 4), 4);
        dueTicks("as if at once", x, 0, 2, 3, 4, 5, 5);
        due("in place", x.copy(0, 0, 0, 0, 5), 5);
        dueTicks("the same", x, 0, 2, 3, 4, 5, 5);
        x = filled(32, 9000);
        x.sheet(3, 32, 24);
        due("to the last number", x.copy(0, 0, 3, 23, 1), 1);
        due("24 of them", x.tape(0, 3), 24);
        due("from the last number", x.copy(3, 23, 3, 0, 1), 1);
        due("9000 is ahead now", x.tape(0, 3), 1);

        promise(28, "BEYOND: no such sheet (either).");
        x = library();
        due("from sheet 4", x.copy(4, 0, 0, 0, 1), BEYOND);
        due("to sheet 4", x.copy(0, 0, 4, 0, 1), BEYOND);
        for (int wrong : NEVER) {
            due("from sheet " + wrong, x.copy(wrong, 0, 0, 0, 1), BEYOND);
            due("to sheet " + wrong, x.copy(0, 0, wrong, 0, 1), BEYOND);
        }

        promise(28, "MISSING: one is.");
        due("the first", x.copy(3, 0, 0, 0, 1), MISSING);
        due("the second", x.copy(0, 0, 3, 0, 1), MISSING);
        due("both", x.copy(3, 0, 3, 0, 0), MISSING);

        promise(28, "KIND: they are not of as many bits.");
        x.sheet(3, 32, 3);
        due("8 to 16", x.copy(0, 0, 2, 0, 1), KIND);
        due("16 to 8", x.copy(2, 0, 0, 0, 1), KIND);
        due("16 to 32", x.copy(2, 0, 3, 0, 1), KIND);
        due("32 to 8", x.copy(3, 0, 0, 0, 1), KIND);
        due("none of them", x.copy(0, 0, 2, 0, 0), KIND);
        dueTicks("as they were", x, 2, 0, 0, 0);
    }

    private void copyBeyond() {
        promise(28, "BEYOND: one has not so many, or from, to or n is below 0.");
        StickRoom x = library();
        due("the first has not", x.copy(1, 0, 0, 0, 4), BEYOND);
        due("the first has not from there", x.copy(1, 2, 0, 0, 2), BEYOND);
        due("the second has not", x.copy(0, 0, 1, 0, 4), BEYOND);
        due("the second has not from there", x.copy(0, 0, 1, 2, 2), BEYOND);
        due("behind the end of the first", x.copy(0, 6, 1, 0, 0), BEYOND);
        due("behind the end of the second", x.copy(0, 0, 1, 4, 0), BEYOND);
        due("from -1", x.copy(0, -1, 1, 0, 1), BEYOND);
        due("to -1", x.copy(0, 0, 1, -1, 1), BEYOND);
        due("n -1", x.copy(0, 1, 1, 1, -1), BEYOND);
        due("from -1, none", x.copy(0, -1, 1, 0, 0), BEYOND);
        due("to -1, none", x.copy(0, 0, 1, -1, 0), BEYOND);
        int[] far = {LOWEST, HIGHEST};
        for (int number : far) {
            due("from " + number, x.copy(0, number, 1, 0, 1), BEYOND);
            due("to " + number, x.copy(0, 0, 1, number, 1), BEYOND);
            due("n " + number, x.copy(0, 1, 1, 1, number), BEYOND);
            due("all " + number, x.copy(0, number, 1, number, number), BEYOND);
            due("from, and n to bring it back", x.copy(0, number, 1, 0, -number), BEYOND);
        }
        dueTicks("as it was", x, 0, 1, 2, 3, 4, 5);
        dueTicks("as it was", x, 1, 10, 20, 30);
        x.sheet(1, 8, 0);
        due("none of none", x.copy(1, 0, 0, 5, 0), 0);
        due("one of none", x.copy(1, 0, 0, 0, 1), BEYOND);
    }

    private void tape() {
        promise(29, "A PLAYER'S TAPE becomes the numbers of a sheet, as far as it can be one:");
        StickRoom x = library();
        hits(x, 2, 9000, 9001);
        due("in place of all hits", x.tape(2, 0), 5);
        due("hits", x.all(3), 5);
        due("another player", x.tape(0, 1), 3);
        due("hits", x.all(3), 8);
        x.put(1, 0, 0);
        x.note(TAP, 10, 0);
        x.rule(WINDOW, 0);
        due("a sheet that changes leaves the tape", x.read(0, 0), 0);
        x.sheet(3, 16, 0);
        due("no numbers", x.tape(2, 3), 0);
        due("no hits", x.wipe(2), 0);
        x.sheet(3, 16, 24);
        due("24", x.tape(2, 3), 24);
        due("a full tape", x.hit(2, 0), FULL);

        promise(29, "how many.");
        due("all of a sheet", filled(8, 0, 0, 127).tape(3, 0), 3);
        due("some of it", filled(8, 0, 5, 4).tape(3, 0), 2);
        due("none of it", filled(8, -1, 5, 6).tape(3, 0), 0);

        promise(29, "BEYOND: no such PLAYER, or sheet.");
        due("player 4", x.tape(4, 0), BEYOND);
        due("sheet 4", x.tape(0, 4), BEYOND);
        for (int wrong : NEVER) {
            due("player " + wrong, x.tape(wrong, 0), BEYOND);
            due("sheet " + wrong, x.tape(0, wrong), BEYOND);
        }

        promise(29, "MISSING.");
        x = filled(8, 1);
        hits(x, 1, 50);
        due("at first", x.tape(1, 1), MISSING);
        due("the tape stays", x.wipe(1), 1);
        x.sheet(0, 0, 0);
        due("again", x.tape(1, 0), MISSING);
    }

    private void tapeStops() {
        promise(29, "up to (without) the first that is no TICK, or below the one ahead");
        StickRoom x = filled(16, 0, 0, 9998, 9999);
        dueTicks("all are ticks", x, 0, 0, 0, 9998, 9999);
        x.put(0, 3, 10000);
        dueTicks("10000", x, 0, 0, 0, 9998);
        x.put(0, 3, -1);
        dueTicks("-1", x, 0, 0, 0, 9998);
        x.put(0, 3, 9997);
        dueTicks("one below", x, 0, 0, 0, 9998);
        x.put(0, 3, 9998);
        dueTicks("the same", x, 0, 0, 0, 9998, 9998);
        x.put(0, 1, -5);
        dueTicks("the rest is not asked", x, 0, 0);
        x.put(0, 0, 10000);
        due("the first at once", x.tape(0, 0), 0);
        x.put(0, 0, 500);
        x.put(0, 1, 499);
        x.put(0, 2, 600);
        dueTicks("what is above again is not taken", x, 0, 500);
        due("hits that were are not ahead", filledTape().tape(0, 0), 2);
    }

    /** A tape with a late hit, and a sheet with early numbers. */
    private static StickRoom filledTape() {
        StickRoom x = filled(8, 1, 2);
        x.hit(0, 9999);
        return x;
    }
}
