import java.util.function.Supplier;
import java.util.function.ToIntFunction;

/**
 * Calls that are refused, each in a room beside a twin in which it is not made:
 * behind it both must answer alike, but for the count of findings.
 */
final class RefusedEdges extends TwinEdges {
    RefusedEdges(Report report) {
        super(report);
    }

    @Override
    void run() {
        terms("an act that answers a finding changes nothing.");
        due("the room has hands", rich().stuck(), -1);
        due("the stuck room has none", stuck().stuck(), 5);
        line();
        hands();
        basses();
        tapes();
        sheets();
        whole();
    }

    private void refused(String what, int finding, Supplier<StickRoom> room, ToIntFunction<StickRoom> call) {
        StickRoom now = room.get();
        StickRoom then = room.get();
        StickRoom written = room.get();
        StickRoom counted = room.get();
        due(what, call.applyAsInt(now), finding);
        due(what, call.applyAsInt(then), finding);
        due(what, call.applyAsInt(written), finding);
        due(what, call.applyAsInt(counted), finding);
        dueAlike(what, present(now), present(room.get()));
        dueAlike(what + ", undone", past(then), past(room.get()));
        dueSheets(what, written);
        due(what + ", findings", counted.all(4), room.get().all(4) + 1);
    }

    private void line() {
        refused("note, kind", BEYOND, TwinEdges::rich, x -> x.note(4, 300, 0));
        refused("note, tick", BEYOND, TwinEdges::rich, x -> x.note(TAP, 10000, 0));
        refused("note, drum", BEYOND, TwinEdges::rich, x -> x.note(TAP, 300, 5));
        refused("note, below", SIZE, TwinEdges::rich, x -> x.note(DRAG, 200, 4));
        refused("note, full", FULL, TwinEdges::full, x -> x.note(DRAG, 300, 4));
        refused("drop", NONE, TwinEdges::empty, x -> x.drop());
        refused("as, note", BEYOND, TwinEdges::rich, x -> x.as(6, TAP));
        refused("as, kind", BEYOND, TwinEdges::rich, x -> x.as(0, 4));
        refused("as", KIND, TwinEdges::rich, x -> x.as(0, DRAG));
        refused("of, note", BEYOND, TwinEdges::rich, x -> x.of(6, 0));
        refused("of, what", BEYOND, TwinEdges::rich, x -> x.of(0, 4));
        refused("mark, note", BEYOND, TwinEdges::rich, x -> x.mark(6, LEFT));
        refused("mark, hand", BEYOND, TwinEdges::rich, x -> x.mark(0, 2));
        refused("rule, which", BEYOND, TwinEdges::rich, x -> x.rule(5, 1));
        refused("rule, too much", BEYOND, TwinEdges::rich, x -> x.rule(WINDOW, 101));
        refused("rule, too little", BEYOND, TwinEdges::rich, x -> x.rule(GAP, -1));
    }

    private void hands() {
        refused("awkward", NONE, TwinEdges::stuck, x -> x.awkward());
        refused("hand, note", BEYOND, TwinEdges::rich, x -> x.hand(6));
        refused("hand", NONE, TwinEdges::stuck, x -> x.hand(0));
        refused("crossed, note", BEYOND, TwinEdges::rich, x -> x.crossed(6));
        refused("crossed", NONE, TwinEdges::stuck, x -> x.crossed(0));
        refused("ways", NONE, TwinEdges::stuck, x -> x.ways());
        refused("latest, hand", BEYOND, TwinEdges::rich, x -> x.latest(2, 0));
        refused("latest, note", BEYOND, TwinEdges::rich, x -> x.latest(LEFT, 6));
        refused("latest", NONE, TwinEdges::stuck, x -> x.latest(LEFT, 0));
        refused("latest, not struck", NONE, TwinEdges::full, x -> x.latest(RIGHT, 0));
        refused("judge, bits", BEYOND, TwinEdges::rich, x -> x.judge(64));
        refused("judge", KIND, TwinEdges::rich, x -> x.judge(0));
    }

    private void basses() {
        refused("bass", BEYOND, TwinEdges::rich, x -> x.bass(5, false));
        refused("split, run", BEYOND, TwinEdges::rich, x -> x.split(0, 6, UP, 0));
        refused("split", NONE, TwinEdges::noBass, x -> x.split(0, 5, UP, 0));
        refused("has, bass", BEYOND, TwinEdges::rich, x -> x.has(0, 5, UP, 5));
        refused("has", NONE, TwinEdges::noBass, x -> x.has(0, 5, UP, 0));
        refused("fast, run", BEYOND, TwinEdges::rich, x -> x.fast(1, 0, UP));
        refused("fast", NONE, TwinEdges::noBass, x -> x.fast(0, 5, UP));
        refused("shape, run", BEYOND, TwinEdges::rich, x -> x.shape(0, 6));
        refused("shape", NONE, TwinEdges::noBass, x -> x.shape(0, 5));
    }

    private void tapes() {
        refused("hit, player", BEYOND, TwinEdges::rich, x -> x.hit(4, 500));
        refused("hit, tick", BEYOND, TwinEdges::rich, x -> x.hit(0, 10000));
        refused("hit, below", SIZE, TwinEdges::rich, x -> x.hit(0, 132));
        refused("hit, full", FULL, TwinEdges::full, x -> x.hit(2, 500));
        refused("wipe", BEYOND, TwinEdges::rich, x -> x.wipe(4));
        refused("price", BEYOND, TwinEdges::rich, x -> x.price(4));
        refused("read, note", BEYOND, TwinEdges::rich, x -> x.read(0, 6));
        refused("read", NONE, TwinEdges::rich, x -> x.read(0, 5));
        refused("late, player", BEYOND, TwinEdges::rich, x -> x.late(4, 0));
        refused("late", NONE, TwinEdges::rich, x -> x.late(0, 5));
        refused("missed", BEYOND, TwinEdges::rich, x -> x.missed(4, true));
    }

    private void sheets() {
        refused("sheet, sheet", BEYOND, TwinEdges::rich, x -> x.sheet(4, 8, 1));
        refused("sheet, bits", BEYOND, TwinEdges::rich, x -> x.sheet(0, 9, 1));
        refused("sheet, below 0", SIZE, TwinEdges::rich, x -> x.sheet(0, 8, -1));
        refused("sheet, above 24", BEYOND, TwinEdges::rich, x -> x.sheet(0, 8, 25));
        refused("sheet 3, above 24", BEYOND, TwinEdges::rich, x -> x.sheet(3, 8, 25));
        refused("put, sheet", BEYOND, TwinEdges::rich, x -> x.put(4, 0, 7));
        refused("put, missing", MISSING, TwinEdges::rich, x -> x.put(3, 0, 7));
        refused("put, behind its end", BEYOND, TwinEdges::rich, x -> x.put(0, 4, 7));
        refused("put, ahead of its start", BEYOND, TwinEdges::rich, x -> x.put(1, -1, 7));
        refused("copy, sheet", BEYOND, TwinEdges::rich, x -> x.copy(0, 0, 4, 0, 1));
        refused("copy, missing", MISSING, TwinEdges::rich, x -> x.copy(0, 0, 3, 0, 1));
        refused("copy, bits", KIND, TwinEdges::rich, x -> x.copy(0, 0, 2, 0, 1));
        refused("copy, too many to take", BEYOND, TwinEdges::rich, x -> x.copy(1, 1, 0, 0, 3));
        refused("copy, too many to bring", BEYOND, TwinEdges::rich, x -> x.copy(0, 0, 1, 1, 3));
        refused("copy, below 0", BEYOND, TwinEdges::rich, x -> x.copy(0, -1, 1, 0, 2));
        refused("tape, player", BEYOND, TwinEdges::rich, x -> x.tape(4, 0));
        refused("tape, sheet", BEYOND, TwinEdges::rich, x -> x.tape(0, 4));
        refused("tape, missing", MISSING, TwinEdges::rich, x -> x.tape(0, 3));
    }

    private void whole() {
        refused("undo", NONE, TwinEdges::empty, x -> x.undo());
        refused("all", BEYOND, TwinEdges::rich, x -> x.all(5));
        refused("all in an empty room", BEYOND, TwinEdges::empty, x -> x.all(-1));
    }
}
