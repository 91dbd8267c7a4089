import java.util.ArrayList;
import java.util.List;
import java.util.function.Supplier;
import java.util.function.ToIntFunction;

/**
 * Calls that are refused, each in a room beside a twin in which it is not made:
 * behind it both must answer alike, but for the count of findings.
 */
final class RefusedEdges extends Edges {
    RefusedEdges(Report report) {
        super(report);
    }

    @Override
    void run() {
        terms("an act that answers a finding changes nothing.");
        due("the room has hands", rich().stuck(), -1);
        due("the stuck room has none", stuck().stuck(), 5);
        line();
        hands();
        basses();
        tapes();
        sheets();
        whole();
    }

    private static StickRoom withSheets(StickRoom x) {
        x.sheet(0, 8, 4);
        fill(x, 0, 1, 2, 3, 4);
        x.sheet(1, 8, 3);
        fill(x, 1, 10, 20, 30);
        x.sheet(2, 16, 5);
        fill(x, 2, 0, 500, 500, 501, 9999);
        return x;
    }

    /** A room with something of everything; its first act is the oldest of 20 that are kept. */
    private static StickRoom rich() {
        StickRoom x = line(TAP, 0, 0, ACCENT, 40, 1, FLAM, 80, 2, DRAG, 130, 3, TAP, 170, 1, TAP, 200, 0);
        x.rule(GAP, 10);
        x.rule(WINDOW, 20);
        x.mark(1, RIGHT);
        x.mark(4, LEFT);
        x.bass(1, false);
        x.bass(3, false);
        hits(x, 0, 2, 44, 79, 133);
        hits(x, 1, 170, 199);
        x.hit(3, 5);
        x.wipe(3);
        return withSheets(x);
    }

    private static StickRoom full() {
        StickRoom x = steady(20, 10);
        for (int i = 0; i < 24; i++) {
            x.hit(2, i * 10);
        }
        return withSheets(x);
    }

    private static StickRoom stuck() {
        StickRoom x = rich();
        x.mark(4, RIGHT);
        x.mark(5, RIGHT);
        x.rule(GAP, 31);
        return x;
    }

    private static StickRoom noBass() {
        StickRoom x = rich();
        onlyBasses(x, 0);
        return x;
    }

    private static StickRoom empty() {
        return withSheets(new StickRoom());
    }

    private static List<Integer> present(StickRoom x) {
        List<Integer> answers = new ArrayList<>();
        int notes = x.all(0);
        for (int what = 0; what < 4; what++) {
            answers.add(x.all(what));
        }
        for (int note = 0; note < notes; note++) {
            for (int what = 0; what < 3; what++) {
                answers.add(x.of(note, what));
            }
            answers.add(x.hand(note));
            answers.add(x.crossed(note));
            answers.add(x.latest(RIGHT, note));
            for (int player = 0; player < 3; player++) {
                answers.add(x.late(player, note));
            }
        }
        answers.add(x.awkward());
        answers.add(x.ways());
        answers.add(x.stuck());
        for (int shape = 0; shape < 3; shape++) {
            answers.add(x.fast(0, notes - 1, shape));
            answers.add(x.has(0, notes - 1, shape, 2));
        }
        for (int player = 0; player < 4; player++) {
            answers.add(x.price(player));
            answers.add(x.missed(player, true));
        }
        for (int note = 0; note < notes; note++) {
            answers.add(x.mark(note, -1));
        }
        for (int which = 0; which < 5; which++) {
            answers.add(x.rule(which, 0));
        }
        return answers;
    }

    private static List<Integer> past(StickRoom x) {
        List<Integer> answers = new ArrayList<>();
        for (int i = 0; i < 21; i++) {
            answers.add(x.undo());
            for (int what = 0; what < 4; what++) {
                answers.add(x.all(what));
            }
            answers.add(x.awkward());
            answers.add(x.price(0));
        }
        for (int which = 0; which < 5; which++) {
            answers.add(x.rule(which, 0));
        }
        return answers;
    }

    private void dueAlike(String what, List<Integer> got, List<Integer> want) {
        due(what + ", how many answers", got.size(), want.size());
        for (int i = 0; i < Math.min(got.size(), want.size()); i++) {
            due(what + ", answer " + i, got.get(i), want.get(i));
        }
    }

    private void refused(String what, int finding, Supplier<StickRoom> room, ToIntFunction<StickRoom> call) {
        StickRoom now = room.get();
        StickRoom then = room.get();
        StickRoom written = room.get();
        StickRoom counted = room.get();
        due(what, call.applyAsInt(now), finding);
        due(what, call.applyAsInt(then), finding);
        due(what, call.applyAsInt(written), finding);
        due(what, call.applyAsInt(counted), finding);
        dueAlike(what, present(now), present(room.get()));
        dueAlike(what + ", undone", past(then), past(room.get()));
        dueTicks(what + ", sheet 0", written, 0, 1, 2, 3, 4);
        dueTicks(what + ", sheet 1", written, 1, 10, 20, 30);
        dueTicks(what + ", sheet 2", written, 2, 0, 500, 500, 501, 9999);
        due(what + ", sheet 3", written.put(3, 0, 0), MISSING);
        due(what + ", findings", counted.all(4), room.get().all(4) + 1);
    }

    private void line() {
        refused("note, kind", BEYOND, RefusedEdges::rich, x -> x.note(4, 300, 0));
        refused("note, tick", BEYOND, RefusedEdges::rich, x -> x.note(TAP, 10000, 0));
        refused("note, drum", BEYOND, RefusedEdges::rich, x -> x.note(TAP, 300, 5));
        refused("note, below", SIZE, RefusedEdges::rich, x -> x.note(DRAG, 200, 4));
        refused("note, full", FULL, RefusedEdges::full, x -> x.note(DRAG, 300, 4));
        refused("drop", NONE, RefusedEdges::empty, x -> x.drop());
        refused("as, note", BEYOND, RefusedEdges::rich, x -> x.as(6, TAP));
        refused("as, kind", BEYOND, RefusedEdges::rich, x -> x.as(0, 4));
        refused("as", KIND, RefusedEdges::rich, x -> x.as(0, DRAG));
        refused("of, note", BEYOND, RefusedEdges::rich, x -> x.of(6, 0));
        refused("of, what", BEYOND, RefusedEdges::rich, x -> x.of(0, 4));
        refused("mark, note", BEYOND, RefusedEdges::rich, x -> x.mark(6, LEFT));
        refused("mark, hand", BEYOND, RefusedEdges::rich, x -> x.mark(0, 2));
        refused("rule, which", BEYOND, RefusedEdges::rich, x -> x.rule(5, 1));
        refused("rule, too much", BEYOND, RefusedEdges::rich, x -> x.rule(WINDOW, 101));
        refused("rule, too little", BEYOND, RefusedEdges::rich, x -> x.rule(GAP, -1));
    }

    private void hands() {
        refused("awkward", NONE, RefusedEdges::stuck, x -> x.awkward());
        refused("hand, note", BEYOND, RefusedEdges::rich, x -> x.hand(6));
        refused("hand", NONE, RefusedEdges::stuck, x -> x.hand(0));
        refused("crossed, note", BEYOND, RefusedEdges::rich, x -> x.crossed(6));
        refused("crossed", NONE, RefusedEdges::stuck, x -> x.crossed(0));
        refused("ways", NONE, RefusedEdges::stuck, x -> x.ways());
        refused("latest, hand", BEYOND, RefusedEdges::rich, x -> x.latest(2, 0));
        refused("latest, note", BEYOND, RefusedEdges::rich, x -> x.latest(LEFT, 6));
        refused("latest", NONE, RefusedEdges::stuck, x -> x.latest(LEFT, 0));
        refused("latest, not struck", NONE, RefusedEdges::full, x -> x.latest(RIGHT, 0));
        refused("judge, bits", BEYOND, RefusedEdges::rich, x -> x.judge(64));
        refused("judge", KIND, RefusedEdges::rich, x -> x.judge(0));
    }

    private void basses() {
        refused("bass", BEYOND, RefusedEdges::rich, x -> x.bass(5, false));
        refused("split, run", BEYOND, RefusedEdges::rich, x -> x.split(0, 6, UP, 0));
        refused("split", NONE, RefusedEdges::noBass, x -> x.split(0, 5, UP, 0));
        refused("has, bass", BEYOND, RefusedEdges::rich, x -> x.has(0, 5, UP, 5));
        refused("has", NONE, RefusedEdges::noBass, x -> x.has(0, 5, UP, 0));
        refused("fast, run", BEYOND, RefusedEdges::rich, x -> x.fast(1, 0, UP));
        refused("fast", NONE, RefusedEdges::noBass, x -> x.fast(0, 5, UP));
        refused("shape, run", BEYOND, RefusedEdges::rich, x -> x.shape(0, 6));
        refused("shape", NONE, RefusedEdges::noBass, x -> x.shape(0, 5));
    }

    private void tapes() {
        refused("hit, player", BEYOND, RefusedEdges::rich, x -> x.hit(4, 500));
        refused("hit, tick", BEYOND, RefusedEdges::rich, x -> x.hit(0, 10000));
        refused("hit, below", SIZE, RefusedEdges::rich, x -> x.hit(0, 132));
        refused("hit, full", FULL, RefusedEdges::full, x -> x.hit(2, 500));
        refused("wipe", BEYOND, RefusedEdges::rich, x -> x.wipe(4));
        refused("price", BEYOND, RefusedEdges::rich, x -> x.price(4));
        refused("read, note", BEYOND, RefusedEdges::rich, x -> x.read(0, 6));
        refused("read", NONE, RefusedEdges::rich, x -> x.read(0, 5));
        refused("late, player", BEYOND, RefusedEdges::rich, x -> x.late(4, 0));
        refused("late", NONE, RefusedEdges::rich, x -> x.late(0, 5));
        refused("missed", BEYOND, RefusedEdges::rich, x -> x.missed(4, true));
    }

    private void sheets() {
        refused("sheet, sheet", BEYOND, RefusedEdges::rich, x -> x.sheet(4, 8, 1));
        refused("sheet, bits", BEYOND, RefusedEdges::rich, x -> x.sheet(0, 9, 1));
        refused("sheet, below 0", SIZE, RefusedEdges::rich, x -> x.sheet(0, 8, -1));
        refused("sheet, above 24", BEYOND, RefusedEdges::rich, x -> x.sheet(0, 8, 25));
        refused("sheet 3, above 24", BEYOND, RefusedEdges::rich, x -> x.sheet(3, 8, 25));
        refused("put, sheet", BEYOND, RefusedEdges::rich, x -> x.put(4, 0, 7));
        refused("put, missing", MISSING, RefusedEdges::rich, x -> x.put(3, 0, 7));
        refused("put, behind its end", BEYOND, RefusedEdges::rich, x -> x.put(0, 4, 7));
        refused("put, ahead of its start", BEYOND, RefusedEdges::rich, x -> x.put(1, -1, 7));
        refused("copy, sheet", BEYOND, RefusedEdges::rich, x -> x.copy(0, 0, 4, 0, 1));
        refused("copy, missing", MISSING, RefusedEdges::rich, x -> x.copy(0, 0, 3, 0, 1));
        refused("copy, bits", KIND, RefusedEdges::rich, x -> x.copy(0, 0, 2, 0, 1));
        refused("copy, too many to take", BEYOND, RefusedEdges::rich, x -> x.copy(1, 1, 0, 0, 3));
        refused("copy, too many to bring", BEYOND, RefusedEdges::rich, x -> x.copy(0, 0, 1, 1, 3));
        refused("copy, below 0", BEYOND, RefusedEdges::rich, x -> x.copy(0, -1, 1, 0, 2));
        refused("tape, player", BEYOND, RefusedEdges::rich, x -> x.tape(4, 0));
        refused("tape, sheet", BEYOND, RefusedEdges::rich, x -> x.tape(0, 4));
        refused("tape, missing", MISSING, RefusedEdges::rich, x -> x.tape(0, 3));
    }

    private void whole() {
        refused("undo", NONE, RefusedEdges::empty, x -> x.undo());
        refused("all", BEYOND, RefusedEdges::rich, x -> x.all(5));
        refused("all in an empty room", BEYOND, RefusedEdges::empty, x -> x.all(-1));
    }
}
