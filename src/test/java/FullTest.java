import java.util.ArrayList;
import java.util.List;
import java.util.Random;

/** Lines of 20 notes and tapes of 24 hits, where the limits of the document are met, against ways written anew. */
public final class FullTest {
    private static final int NONE = -100006;
    private static final int NOTES = 20;
    private static final int HITS = 24;

    private static long asked = 0;
    private static int wrong = 0;

    private static void due(String what, int got, int want) {
        asked++;
        if (got != want) {
            wrong++;
            System.out.println(what + " answered " + got + ", due is " + want);
        }
    }

    public static void main(String[] args) {
        int stuck = 0;
        for (int seed = 0; seed < 240; seed++) {
            stuck += holdHands(seed) ? 0 : 1;
        }
        due("some lines, but not most, are stuck", stuck > 0 && stuck < 160 ? 1 : 0, 1);
        for (int seed = 0; seed < 1500; seed++) {
            holdReading(seed);
        }
        System.out.println(asked + " answers of full lines and tapes, " + wrong + " not as due");
        if (wrong != 0) {
            System.exit(1);
        }
    }

    // ---- hands

    /** A hand's latest stroke. */
    private record Latest(int tick, int height, int drum) {
    }

    /** Every way to strike a line, one hand behind the other. */
    private static final class Ways {
        final int[][] notes; // kind, tick, drum, mark
        final int gap;
        final int lift;
        final int crosses;
        final int fast;
        int reached = 0;
        int least = Integer.MAX_VALUE;
        int count = 0;
        int[] first = null;
        private final int[] way = new int[NOTES];

        Ways(int[][] notes, int gap, int lift, int crosses, int fast) {
            this.notes = notes;
            this.gap = gap;
            this.lift = lift;
            this.crosses = crosses;
            this.fast = fast;
            follow(0, null, null, 0, 0);
        }

        private void follow(int k, Latest left, Latest right, int crossed, int price) {
            reached = Math.max(reached, k);
            if (k == notes.length) {
                take(price);
                return;
            }
            for (int hand = 0; hand < 2; hand++) {
                int[] note = notes[k];
                if (note[3] != -1 && note[3] != hand) {
                    continue;
                }
                Latest main = struck(hand == 0 ? left : right, note[1], new int[] {1, 3, 2, 2}[note[0]], note[2]);
                Latest other = hand == 0 ? right : left;
                if (note[0] >= 2) {
                    other = struck(other, note[1] - (note[0] == 3 ? 8 : 4), 1, note[2]);
                    // A drag's second grace is struck whatever the rules say.
                    other = other == null ? null : new Latest(note[1] - 4, 1, note[2]);
                }
                if (main == null || note[0] >= 2 && other == null) {
                    continue;
                }
                Latest nowLeft = hand == 0 ? main : other;
                Latest nowRight = hand == 0 ? other : main;
                int isCrossed = nowLeft != null && nowRight != null && nowRight.drum < nowLeft.drum ? 1 : 0;
                if (crossed + isCrossed <= crosses) {
                    way[k] = hand;
                    follow(k + 1, nowLeft, nowRight, crossed + isCrossed, price + 2 * isCrossed + awkward(k));
                }
            }
        }

        private Latest struck(Latest ahead, int tick, int height, int drum) {
            if (ahead != null) {
                int apart = tick - ahead.tick;
                if (apart < gap || apart < lift * Math.abs(height - ahead.height)) {
                    return null;
                }
            }
            return new Latest(tick, height, drum);
        }

        private int awkward(int k) {
            int price = notes[k][0] == 1 && way[k] == 0 ? 1 : 0;
            if (k > 0 && way[k] == way[k - 1]) {
                price += notes[k][1] - notes[k - 1][1] < fast ? 3 : 2;
                price += notes[k][0] >= 2 && notes[k - 1][0] >= 2 ? 3 : 0;
            }
            return price;
        }

        // Ways come in their order, left ahead of right, so the first of a price is the first of all.
        private void take(int price) {
            if (price < least) {
                least = price;
                count = 0;
                first = way.clone();
            }
            count += price == least ? 1 : 0;
        }
    }

    private static boolean holdHands(int seed) {
        Random random = new Random(seed);
        StickRoom room = new StickRoom();
        int gap = seed % 4 == 0 ? 0 : random.nextInt(22);
        int lift = seed % 5 == 0 ? 0 : random.nextInt(9);
        int crosses = random.nextInt(5);
        int fast = random.nextInt(60);
        room.rule(0, gap);
        room.rule(1, lift);
        room.rule(2, crosses);
        room.rule(3, fast);
        int[][] notes = new int[NOTES][];
        int tick = random.nextInt(10);
        int drum = random.nextInt(5);
        for (int k = 0; k < NOTES; k++) {
            int kind = random.nextInt(3) > 0 ? random.nextInt(2) : random.nextInt(4);
            drum = random.nextInt(3) > 0 ? drum : random.nextInt(5);
            notes[k] = new int[] {kind, tick, drum, random.nextInt(10) == 0 ? random.nextInt(2) : -1};
            due("note " + k, room.note(kind, tick, drum), k);
            room.mark(k, notes[k][3]);
            tick += 9 + random.nextInt(8 + seed % 40);
        }
        Ways ways = new Ways(notes, gap, lift, crosses, fast);
        String where = "full line " + seed + ": ";
        boolean are = ways.first != null;
        due(where + "stuck()", room.stuck(), are ? -1 : ways.reached);
        due(where + "awkward()", room.awkward(), are ? ways.least : NONE);
        due(where + "ways()", room.ways(), are ? ways.count : NONE);
        int bits = 0;
        for (int k = 0; k < NOTES; k++) {
            due(where + "hand(" + k + ")", room.hand(k), are ? ways.first[k] : NONE);
            bits |= are ? ways.first[k] << k : 0;
        }
        if (are) {
            due(where + "judge(" + bits + ")", room.judge(bits), ways.least);
        }
        return are;
    }

    // ---- tapes

    /** A reading of some notes and some hits: the price, and of each note its hit or none (the last of all). */
    private record Reading(int price, List<Integer> hits) {
        static final int NOT = HITS;

        Reading with(int more, int hit) {
            List<Integer> longer = new ArrayList<>(hits);
            longer.add(hit);
            return new Reading(price + more, longer);
        }

        Reading with(int more) {
            return new Reading(price + more, hits);
        }

        Reading orBetter(Reading other) {
            if (other.price != price) {
                return other.price < price ? other : this;
            }
            for (int i = 0; i < hits.size(); i++) {
                if (!other.hits.get(i).equals(hits.get(i))) {
                    return other.hits.get(i) < hits.get(i) ? other : this;
                }
            }
            return this;
        }
    }

    /** From the front on, with every reading written out; the class goes from the end. */
    private static Reading bestReading(int[] notes, int[] hits, int window) {
        Reading[][] best = new Reading[notes.length + 1][hits.length + 1];
        for (int n = 0; n <= notes.length; n++) {
            for (int h = 0; h <= hits.length; h++) {
                Reading here = n == 0 && h == 0 ? new Reading(0, List.of()) : null;
                if (h > 0) {
                    here = best[n][h - 1].with(40);
                }
                if (n > 0) {
                    Reading without = best[n - 1][h].with(40, Reading.NOT);
                    here = here == null ? without : here.orBetter(without);
                }
                if (n > 0 && h > 0 && Math.abs(notes[n - 1] - hits[h - 1]) <= window) {
                    here = here.orBetter(best[n - 1][h - 1].with(Math.abs(notes[n - 1] - hits[h - 1]), h - 1));
                }
                best[n][h] = here;
            }
        }
        return best[notes.length][hits.length];
    }

    private static int[] rising(Random random, int count, int least, int most) {
        int[] ticks = new int[count];
        int tick = random.nextInt(30);
        for (int i = 0; i < count; i++) {
            ticks[i] = tick;
            tick += least + random.nextInt(most);
        }
        return ticks;
    }

    private static void holdReading(int seed) {
        Random random = new Random(seed);
        StickRoom room = new StickRoom();
        int stride = 1 + seed % 60;
        int[] notes = rising(random, NOTES, 1, stride);
        int[] hits = rising(random, seed % 3 == 0 ? HITS : random.nextInt(HITS + 1), 0, stride);
        int window = seed % 2 == 0 ? random.nextInt(101) : random.nextInt(30);
        int player = seed % 4;
        room.rule(4, window);
        for (int tick : notes) {
            room.note(0, tick, 0);
        }
        for (int tick : hits) {
            room.hit(player, tick);
        }
        Reading best = bestReading(notes, hits, window);
        String where = "full tape " + seed + ": ";
        int missed = 0;
        for (int n = 0; n < NOTES; n++) {
            int hit = best.hits.get(n);
            boolean is = hit != Reading.NOT;
            missed += is ? 0 : 1;
            due(where + "read(" + n + ")", room.read(player, n), is ? hit : NONE);
            due(where + "late(" + n + ")", room.late(player, n), is ? hits[hit] - notes[n] : NONE);
        }
        due(where + "price()", room.price(player), best.price);
        due(where + "missed()", room.missed(player, false), missed);
        due(where + "missed(extra)", room.missed(player, true), hits.length - NOTES + missed);
    }
}
