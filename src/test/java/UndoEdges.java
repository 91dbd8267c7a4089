import java.util.function.Supplier;
import java.util.function.ToIntFunction;

/** Acts that are undone at once, in a room beside a twin in which they are not done: both must be alike. */
final class UndoEdges extends TwinEdges {
    UndoEdges(Report report) {
        super(report);
    }

    @Override
    void run() {
        promise(30, "The latest act that changed the room (note, drop, mark, rule, bass, hit, wipe, tape, without a finding) is undone");
        due("acts of the small room", small().undo(), 11);
        line();
        rules();
        basses();
        tapes();
        severalActs();
    }

    /** A room with few acts, so that one more takes the place of none. */
    static StickRoom small() {
        StickRoom x = line(TAP, 0, 0, ACCENT, 40, 1, FLAM, 80, 2, DRAG, 130, 3, TAP, 170, 1);
        x.rule(GAP, 10);
        x.rule(WINDOW, 20);
        x.mark(0, LEFT);
        x.mark(3, RIGHT);
        x.bass(1, false);
        hits(x, 0, 2, 44);
        return withSheets(x);
    }

    private void undone(String what, Supplier<StickRoom> room, ToIntFunction<StickRoom> act) {
        StickRoom now = room.get();
        StickRoom then = room.get();
        StickRoom written = room.get();
        StickRoom[] all = {now, then, written};
        for (StickRoom x : all) {
            act.applyAsInt(x);
            x.undo();
        }
        dueAlike(what, present(now), present(room.get()));
        if (room.get().undo() < 19) {
            dueAlike(what + ", undone", past(then), past(room.get()));
        }
        dueSheets(what, written);
    }

    private void undone(String what, ToIntFunction<StickRoom> act) {
        undone(what, UndoEdges::small, act);
        undone(what + " in a rich room", TwinEdges::rich, act);
    }

    private void line() {
        undone("note", x -> x.note(DRAG, 9999, 4));
        undone("drop", x -> x.drop());
        undone("drop of a marked note", () -> marked(small(), 4, RIGHT), x -> x.drop());
        undone("drop of one of 20", TwinEdges::full, x -> x.drop());
        for (int note = 0; note < 5; note++) {
            for (int was = -1; was <= 1; was++) {
                for (int hand = -1; hand <= 1; hand++) {
                    int n = note;
                    int before = was;
                    int behind = hand;
                    undone("mark of " + n, () -> marked(small(), n, before), x -> x.mark(n, behind));
                }
            }
        }
    }

    private static StickRoom marked(StickRoom x, int note, int hand) {
        x.mark(note, hand);
        return x;
    }

    private void rules() {
        for (int which = 0; which < 5; which++) {
            int w = which;
            undone("rule " + w, x -> x.rule(w, 0));
            undone("rule " + w, x -> x.rule(w, 4));
        }
    }

    private void basses() {
        for (int bass = 0; bass < 5; bass++) {
            int b = bass;
            undone("bass " + b + " goes", x -> x.bass(b, false));
            undone("bass " + b + " comes", x -> x.bass(b, true));
            undone("bass " + b + " comes alone", TwinEdges::noBass, x -> x.bass(b, true));
        }
    }

    private void tapes() {
        for (int player = 0; player < 4; player++) {
            int p = player;
            undone("hit", x -> x.hit(p, 9999));
            undone("wipe", x -> x.wipe(p));
            undone("wipe of 24", TwinEdges::full, x -> x.wipe(p));
            for (int sheet = 0; sheet < 3; sheet++) {
                int s = sheet;
                undone("tape", x -> x.tape(p, s));
                undone("tape for 24", TwinEdges::full, x -> x.tape(p, s));
            }
        }
    }

    private void severalActs() {
        StickRoom x = small();
        x.wipe(0);
        x.drop();
        x.tape(0, 2);
        x.note(FLAM, 500, 0);
        x.mark(4, LEFT);
        x.hit(0, 9999);
        x.bass(1, true);
        x.rule(LIFT, 0);
        for (int i = 0; i < 8; i++) {
            due("how many more", x.undo(), 19 - i);
        }
        dueAlike("eight acts", present(x), present(small()));
    }
}
