import java.util.ArrayList;
import java.util.Comparator;
import java.util.List;
import java.util.Random;
import java.util.TreeSet;

/** Runs of calls, each answer compared with that of a slow model that follows the document word by word. */
public final class ReferenceTest {
    private static final int RUNS = 3000;
    private static final int CALLS = 500;
    private static final int LOOKS = 24;

    private static int wrong = 0;
    private static int laidWhole = 0;
    private static int laidCut = 0;
    private static int savedByCutting = 0;
    private static int longRings = 0;
    private static int highRings = 0;
    private static int keptAfterRefusal = 0;

    private interface Call {
        Object answer();
    }

    private record Segment(int net, int left, int right, TreeSet<Integer> touches) { }

    public static void main(String[] args) {
        for (int run = 0; run < RUNS && wrong == 0; run++) {
            oneRun(run);
        }
        enough("laid whole", laidWhole);
        enough("laid cut", laidCut);
        enough("saved by cutting", savedByCutting);
        enough("rings of three and more", longRings);
        enough("rings that do not begin with segment 0", highRings);
        enough("kept after a refusal", keptAfterRefusal);
        if (wrong > 0) {
            System.exit(1);
        }
    }

    // A test that never meets a case says nothing about it.
    private static void enough(String what, int times) {
        if (times < 100) {
            wrong++;
            System.out.println("met too seldom: " + what + ", " + times + " times");
        }
    }

    private static void oneRun(int run) {
        Random random = new Random(run);
        int columns = 2 + random.nextInt(19);
        int nets = 1 + random.nextInt(9);
        int filling = 10 + random.nextInt(91);
        ChannelRouter x = new ChannelRouter();
        Model m = new Model();
        int calls = 0;
        for (int column = 0; column < columns; column++) {
            for (int side = 0; side < 2; side++) {
                if (random.nextInt(100) < filling) {
                    pin(run, x, m, column, side == 0, 1 + random.nextInt(nets));
                    calls++;
                }
            }
        }
        while (calls < CALLS - LOOKS - 30 && wrong == 0) {
            calls += change(run, random, x, m, columns, nets);
            calls += layings(run, random, x, m);
            calls += looks(run, random, x, m);
        }
    }

    private static int change(int run, Random random, ChannelRouter x, Model m, int columns, int nets) {
        int calls = random.nextInt(4);
        for (int k = 0; k < calls; k++) {
            int net = random.nextInt(3) == 0 ? 0 : 1 + random.nextInt(nets);
            pin(run, x, m, random.nextInt(columns), random.nextBoolean(), net);
        }
        if (random.nextInt(8) != 0) {
            for (int net = 1; net <= 9; net++) {
                if (m.kind(net) == 1) {
                    removeOrJoin(run, random, x, m, net);
                    calls++;
                }
            }
        }
        return calls;
    }

    private static void removeOrJoin(int run, Random random, ChannelRouter x, Model m, int net) {
        for (int tries = 0; tries < 10; tries++) {
            int column = random.nextInt(20);
            boolean top = random.nextBoolean();
            if (m.pins[column][top ? 0 : 1] == 0) {
                pin(run, x, m, column, top, net);
                return;
            }
        }
        int column = m.columns(net).first();
        pin(run, x, m, column, m.pins[column][0] == net, 0);
    }

    private static void pin(int run, ChannelRouter x, Model m, int column, boolean top, int net) {
        same(run, "pin(" + column + ", " + top + ", " + net + ")", () -> x.pin(column, top, net), () -> m.pin(column, top, net));
    }

    private static int layings(int run, Random random, ChannelRouter x, Model m) {
        int calls = 1 + random.nextInt(3);
        for (int k = 0; k < calls; k++) {
            int kind = random.nextInt(3);
            boolean before = m.laid != null;
            int refused = m.refused;
            if (kind == 2) {
                same(run, "layAny()", () -> x.layAny(), () -> m.layAny());
                savedByCutting += m.cutByAny ? 1 : 0;
            } else {
                same(run, "lay(" + (kind == 1) + ")", () -> x.lay(kind == 1), () -> m.lay(kind == 1));
            }
            note(m, before, m.refused > refused, kind);
        }
        return calls;
    }

    private static void note(Model m, boolean before, boolean refusedNow, int kind) {
        if (refusedNow) {
            longRings += m.told.size() > 2 ? 1 : 0;
            highRings += m.told.get(0) > 0 ? 1 : 0;
            keptAfterRefusal += before ? 1 : 0;
        } else if (m.laid != null && m.laid.size() > 2) {
            laidWhole += kind == 0 ? 1 : 0;
            laidCut += kind == 1 ? 1 : 0;
        }
    }

    private static int looks(int run, Random random, ChannelRouter x, Model m) {
        for (int k = 0; k < LOOKS && wrong == 0; k++) {
            int a = random.nextInt(25) - 2;
            int b = random.nextInt(m.tracks() + 4) - 2;
            int w = random.nextInt(7) - 1;
            boolean cuts = random.nextBoolean();
            switch (random.nextInt(12)) {
                case 0 -> same(run, "ring(" + w + ")", () -> x.ring(w), () -> m.ring(w));
                case 1 -> same(run, "segment(" + a + ", " + w + ")", () -> x.segment(a, w), () -> m.segment(a, w));
                case 2 -> same(run, "level(" + b + ", " + a + ")", () -> x.level(b, a), () -> m.level(b, a));
                case 3, 4 -> same(run, "upright(" + a + ", " + b + ")", () -> x.upright(a, b), () -> m.upright(a, b));
                case 5 -> same(run, "via(" + b + ", " + a + ")", () -> x.via(b, a), () -> m.via(b, a));
                case 6 -> same(run, "density()", () -> x.density(), () -> m.density());
                case 7 -> same(run, "pairs(" + cuts + ")", () -> x.pairs(cuts), () -> m.pairs(cuts));
                case 8 -> same(run, "net(" + a + ", " + w + ")", () -> x.net(a, w), () -> m.net(a, w));
                case 9, 10 -> same(run, "count(" + w + ")", () -> x.count(w), () -> m.count(w));
                default -> same(run, "used()", () -> x.used(), () -> m.used());
            }
        }
        return LOOKS;
    }

    private static void same(int run, String call, Call program, Call model) {
        Object got = answer(program);
        Object due = answer(model);
        if (!due.equals(got)) {
            wrong++;
            System.out.println("run " + run + ": " + call + " answered " + got + ", due is " + due);
        }
    }

    private static Object answer(Call call) {
        try {
            return call.answer();
        } catch (RuntimeException e) {
            return e.getClass();
        }
    }

    private static final class Model {
        final int[][] pins = new int[20][2];
        List<Segment> laid = null;
        List<Integer> onTrack = new ArrayList<>();
        int tracks = 0;
        int times = 0;
        int refused = 0;
        List<Integer> told = new ArrayList<>();
        boolean cutByAny = false;

        TreeSet<Integer> columns(int net) {
            TreeSet<Integer> found = new TreeSet<>();
            for (int c = 0; c < 20; c++) {
                if (pins[c][0] == net || pins[c][1] == net) {
                    found.add(c);
                }
            }
            return found;
        }

        int pinCount(int net) {
            int found = 0;
            for (int[] column : pins) {
                found += (column[0] == net ? 1 : 0) + (column[1] == net ? 1 : 0);
            }
            return found;
        }

        int kind(int net) {
            int count = pinCount(net);
            return count < 2 ? count : count == 2 && columns(net).size() == 1 ? 2 : 3;
        }

        List<Segment> segments(boolean cuts) {
            List<Segment> found = new ArrayList<>();
            for (int net = 1; net <= 9; net++) {
                if (kind(net) == 3) {
                    TreeSet<Integer> all = columns(net);
                    if (!cuts) {
                        found.add(new Segment(net, all.first(), all.last(), all));
                    } else {
                        for (int c : all.headSet(all.last())) {
                            int d = all.higher(c);
                            found.add(new Segment(net, c, d, new TreeSet<>(List.of(c, d))));
                        }
                    }
                }
            }
            return found;
        }

        boolean above(Segment x, Segment y) {
            for (int c = 0; c < 20; c++) {
                if (pins[c][0] != pins[c][1] && x.net == pins[c][0] && y.net == pins[c][1]
                        && x.touches.contains(c) && y.touches.contains(c)) {
                    return true;
                }
            }
            return false;
        }

        // steps[x][y]: the fewest steps, one at least, from x down to y; a great number if there is no way
        int[][] steps(List<Segment> all) {
            int n = all.size();
            int[][] steps = new int[n][n];
            for (int x = 0; x < n; x++) {
                for (int y = 0; y < n; y++) {
                    steps[x][y] = above(all.get(x), all.get(y)) ? 1 : 1_000_000;
                }
            }
            for (int m = 0; m < n; m++) {
                for (int x = 0; x < n; x++) {
                    for (int y = 0; y < n; y++) {
                        steps[x][y] = Math.min(steps[x][y], steps[x][m] + steps[m][y]);
                    }
                }
            }
            return steps;
        }

        List<Integer> findRing(List<Segment> all) {
            int[][] steps = steps(all);
            List<Integer> found = new ArrayList<>();
            for (int first = 0; first < all.size(); first++) {
                if (steps[first][first] < 1_000_000) {
                    found.add(first);
                    int at = next(all, steps, first, first);
                    while (at != first) {
                        found.add(at);
                        at = next(all, steps, at, first);
                    }
                    return found;
                }
            }
            return found;
        }

        int next(List<Segment> all, int[][] steps, int at, int first) {
            int best = -1;
            int fewest = 1_000_000;
            for (int y = 0; y < all.size(); y++) {
                int back = y == first ? 0 : steps[y][first];
                if (above(all.get(at), all.get(y)) && back < fewest) {
                    fewest = back;
                    best = y;
                }
            }
            return best;
        }

        int pin(int column, boolean top, int net) {
            int before = pins[column][top ? 0 : 1];
            pins[column][top ? 0 : 1] = net;
            laid = null;
            tracks = 0;
            return before;
        }

        void refuseSingle() {
            for (int net = 1; net <= 9; net++) {
                if (kind(net) == 1) {
                    throw new IllegalArgumentException();
                }
            }
        }

        int lay(boolean cuts) {
            refuseSingle();
            List<Segment> all = segments(cuts);
            List<Integer> ring = findRing(all);
            if (!ring.isEmpty()) {
                told = ring;
                refused++;
                throw new IllegalStateException();
            }
            layAll(all);
            laid = all;
            times++;
            return tracks;
        }

        int layAny() {
            cutByAny = false;
            refuseSingle();
            boolean cuts = !findRing(segments(false)).isEmpty();
            int answer = (cuts ? 1000 : 0) + lay(cuts);
            cutByAny = cuts;
            return answer;
        }

        void layAll(List<Segment> all) {
            List<Integer> track = new ArrayList<>();
            List<Integer> order = new ArrayList<>();
            for (int i = 0; i < all.size(); i++) {
                track.add(-1);
                order.add(i);
            }
            order.sort(Comparator.comparing((Integer i) -> all.get(i).left).thenComparing(i -> i));
            tracks = 0;
            while (track.contains(-1)) {
                Segment latest = null;
                for (int i : order) {
                    Segment s = all.get(i);
                    boolean free = track.get(i) == -1 && uppersAreBefore(all, track, s);
                    if (free && (latest == null || s.left > latest.right || s.left == latest.right && s.net == latest.net)) {
                        track.set(i, tracks);
                        latest = s;
                    }
                }
                tracks++;
            }
            onTrack = track;
        }

        boolean uppersAreBefore(List<Segment> all, List<Integer> track, Segment s) {
            for (int x = 0; x < all.size(); x++) {
                if (above(all.get(x), s) && (track.get(x) == -1 || track.get(x) >= tracks)) {
                    return false;
                }
            }
            return true;
        }

        int tracks() {
            return tracks;
        }

        int ring(int k) {
            return k >= 0 && k < told.size() ? told.get(k) : -1;
        }

        void need(boolean holds) {
            if (!holds) {
                throw new IndexOutOfBoundsException();
            }
        }

        int segment(int i, int what) {
            need(laid != null && i >= 0 && i < laid.size() && what >= 0 && what < 4);
            Segment s = laid.get(i);
            return new int[] {s.net, s.left, s.right, onTrack.get(i)}[what];
        }

        int level(int track, int column) {
            need(track >= 0 && track < tracks && column >= 0 && column < 20);
            int net = 0;
            for (int i = 0; i < laid.size(); i++) {
                Segment s = laid.get(i);
                if (onTrack.get(i) == track && s.left <= column && s.right >= column) {
                    if (net != 0 && net != s.net) {
                        throw new UnsupportedOperationException("short on the level layer");
                    }
                    net = s.net;
                }
            }
            return net;
        }

        TreeSet<Integer> touchedTracks(int net, int column) {
            TreeSet<Integer> found = new TreeSet<>();
            for (int i = 0; i < laid.size(); i++) {
                if (laid.get(i).net == net && laid.get(i).touches.contains(column)) {
                    found.add(onTrack.get(i));
                }
            }
            return found;
        }

        int upright(int column, int row) {
            need(laid != null && column >= 0 && column < 20 && row >= -1 && row <= tracks);
            int top = pins[column][0];
            int bottom = pins[column][1];
            if (top == bottom) {
                return top;
            }
            boolean ofTop = top != 0 && row <= touchedTracks(top, column).last();
            boolean ofBottom = bottom != 0 && row >= touchedTracks(bottom, column).first();
            if (ofTop && ofBottom) {
                throw new UnsupportedOperationException("short on the upright layer");
            }
            return ofTop ? top : ofBottom ? bottom : 0;
        }

        boolean via(int track, int column) {
            int net = level(track, column);
            return net != 0 && net == upright(column, track) && touchedTracks(net, column).contains(track);
        }

        int density() {
            int most = 0;
            for (int c = 0; c < 20; c++) {
                int here = 0;
                for (Segment s : segments(false)) {
                    here += s.left <= c && c <= s.right ? 1 : 0;
                }
                most = Math.max(most, here);
            }
            return most;
        }

        int pairs(boolean cuts) {
            int found = 0;
            for (Segment x : segments(cuts)) {
                for (Segment y : segments(cuts)) {
                    found += above(x, y) ? 1 : 0;
                }
            }
            return found;
        }

        int net(int net, int what) {
            need(net >= 1 && net <= 9 && what >= 0 && what <= 3);
            boolean isLong = kind(net) == 3;
            switch (what) {
                case 0: return isLong ? columns(net).first() : -1;
                case 1: return isLong ? columns(net).last() : -1;
                case 2: return pinCount(net);
                default: return kind(net);
            }
        }

        int count(int what) {
            need(what >= 0 && what <= 5);
            switch (what) {
                case 0: return tracks;
                case 1: return laid == null ? 0 : laid.size();
                case 2: return vias();
                case 3: return times;
                case 4: return refused;
                default: return laid == null ? 0 : 1;
            }
        }

        int vias() {
            int found = 0;
            for (int t = 0; t < tracks; t++) {
                for (int c = 0; c < 20; c++) {
                    found += via(t, c) ? 1 : 0;
                }
            }
            return found;
        }

        float used() {
            int points = 0;
            for (int t = 0; t < tracks; t++) {
                for (int c = 0; c < 20; c++) {
                    points += level(t, c) != 0 ? 1 : 0;
                }
            }
            return tracks == 0 ? 0f : (float) points / (20 * tracks);
        }
    }
}
