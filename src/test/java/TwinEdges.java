import java.util.ArrayList;
import java.util.List;

/** Tests that hold one room against a twin: rooms to begin with, and all that they answer. */
abstract class TwinEdges extends Edges {
    TwinEdges(Report report) {
        super(report);
    }

    static StickRoom withSheets(StickRoom x) {
        x.sheet(0, 8, 4);
        fill(x, 0, 1, 2, 3, 4);
        x.sheet(1, 8, 3);
        fill(x, 1, 10, 20, 30);
        x.sheet(2, 16, 5);
        fill(x, 2, 0, 500, 500, 501, 9999);
        return x;
    }

    /** A room with something of everything; its first act is the oldest of 20 that are kept. */
    static StickRoom rich() {
        StickRoom x = line(TAP, 0, 0, ACCENT, 40, 1, FLAM, 80, 2, DRAG, 130, 3, TAP, 170, 1, TAP, 200, 0);
        x.rule(GAP, 10);
        x.rule(WINDOW, 20);
        x.mark(1, RIGHT);
        x.mark(4, LEFT);
        x.bass(1, false);
        x.bass(3, false);
        hits(x, 0, 2, 44, 79, 133);
        hits(x, 1, 170, 199);
        x.hit(3, 5);
        x.wipe(3);
        return withSheets(x);
    }

    static StickRoom full() {
        StickRoom x = steady(20, 10);
        for (int i = 0; i < 24; i++) {
            x.hit(2, i * 10);
        }
        return withSheets(x);
    }

    static StickRoom stuck() {
        StickRoom x = rich();
        x.mark(4, RIGHT);
        x.mark(5, RIGHT);
        x.rule(GAP, 31);
        return x;
    }

    static StickRoom noBass() {
        StickRoom x = rich();
        onlyBasses(x, 0);
        return x;
    }

    static StickRoom empty() {
        return withSheets(new StickRoom());
    }

    static List<Integer> present(StickRoom x) {
        List<Integer> answers = new ArrayList<>();
        int notes = x.all(0);
        for (int what = 0; what < 4; what++) {
            answers.add(x.all(what));
        }
        for (int note = 0; note < notes; note++) {
            for (int what = 0; what < 3; what++) {
                answers.add(x.of(note, what));
            }
            answers.add(x.hand(note));
            answers.add(x.crossed(note));
            answers.add(x.latest(RIGHT, note));
            for (int player = 0; player < 3; player++) {
                answers.add(x.late(player, note));
            }
        }
        answers.add(x.awkward());
        answers.add(x.ways());
        answers.add(x.stuck());
        for (int shape = 0; shape < 3; shape++) {
            answers.add(x.fast(0, notes - 1, shape));
            answers.add(x.has(0, notes - 1, shape, 2));
        }
        for (int player = 0; player < 4; player++) {
            answers.add(x.price(player));
            answers.add(x.missed(player, true));
        }
        for (int note = 0; note < notes; note++) {
            answers.add(x.mark(note, -1));
        }
        for (int which = 0; which < 5; which++) {
            answers.add(x.rule(which, 0));
        }
        return answers;
    }

    static List<Integer> past(StickRoom x) {
        List<Integer> answers = new ArrayList<>();
        for (int i = 0; i < 21; i++) {
            answers.add(x.undo());
            for (int what = 0; what < 4; what++) {
                answers.add(x.all(what));
            }
            answers.add(x.awkward());
            answers.add(x.price(0));
        }
        for (int which = 0; which < 5; which++) {
            answers.add(x.rule(which, 0));
        }
        return answers;
    }

    final void dueAlike(String what, List<Integer> got, List<Integer> want) {
        due(what + ", how many answers", got.size(), want.size());
        for (int i = 0; i < Math.min(got.size(), want.size()); i++) {
            due(what + ", answer " + i, got.get(i), want.get(i));
        }
    }

    /** The sheets as withSheets() made them. */
    final void dueSheets(String what, StickRoom x) {
        dueTicks(what + ", sheet 0", x, 0, 1, 2, 3, 4);
        dueTicks(what + ", sheet 1", x, 1, 10, 20, 30);
        dueTicks(what + ", sheet 2", x, 2, 0, 500, 500, 501, 9999);
        due(what + ", sheet 3", x.put(3, 0, 0), MISSING);
    }
}
