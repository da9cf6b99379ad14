import java.util.Arrays;

/** A channel between two rows of pins, whose nets are laid on tracks; the terms are those of DOC.md. */
public final class ChannelRouter {
    public static final int NONE = -1;

    private static final int COLUMNS = 20;
    private static final int NETS = 9;
    private static final int NO_NET = 0;
    // Every segment ends in a column where its net has a pin, and no two of one net end in the same
    // column: that is two at most in each column, and none in column 0.
    private static final int MOST_SEGMENTS = 2 * (COLUMNS - 1);
    private static final int CUT_MARK = 1000;

    private static final int WITHOUT_PINS = 0;
    private static final int SINGLE = 1;
    private static final int STRAIGHT = 2;
    private static final int LONG = 3;

    private final Pins pins;
    private final RingSearch rings;
    // Two plans that change places: a lay() that is refused must leave what was laid before.
    private Plan laid;
    private Plan draft;
    private boolean isLaid;
    private int timesLaid;
    private int timesRefused;

    public ChannelRouter() {
        pins = new Pins();
        rings = new RingSearch();
        laid = new Plan();
        draft = new Plan();
        isLaid = false;
        timesLaid = 0;
        timesRefused = 0;
    }

    public int pin(int column, boolean top, int net) throws IndexOutOfBoundsException, IllegalArgumentException {
        if (!isColumn(column)) {
            throw new IndexOutOfBoundsException("no such column");
        }
        if (net != NO_NET && !isNet(net)) {
            throw new IllegalArgumentException("no such net");
        }
        laid.clear();
        isLaid = false;
        return pins.put(column, top, net);
    }

    public int lay(boolean cuts) throws IllegalArgumentException, IllegalStateException {
        if (pins.anySingle()) {
            throw new IllegalArgumentException("some net is single");
        }
        if (draftHasRing(cuts)) {
            tellRingOfDraft();
            throw new IllegalStateException("there is a ring");
        }
        keepDraft();
        return laid.tracks;
    }

    public int layAny() throws IllegalArgumentException, IllegalStateException {
        if (pins.anySingle()) {
            throw new IllegalArgumentException("some net is single");
        }
        boolean cuts = draftHasRing(false);
        if (cuts && draftHasRing(true)) {
            tellRingOfDraft();
            throw new IllegalStateException("there is a ring with cutting, too");
        }
        keepDraft();
        return cuts ? CUT_MARK + laid.tracks : laid.tracks;
    }

    public int ring(int k) {
        return rings.toldAt(k);
    }

    public int segment(int i, int what) throws IndexOutOfBoundsException {
        if (i < 0 || i >= laid.size) {
            throw new IndexOutOfBoundsException("no such segment");
        }
        switch (what) {
            case 0:
                return laid.netOf[i];
            case 1:
                return laid.left[i];
            case 2:
                return laid.right[i];
            case 3:
                return laid.trackOf[i];
            default:
                throw new IndexOutOfBoundsException("no such what");
        }
    }

    public int level(int track, int column) throws IndexOutOfBoundsException {
        if (!isTrack(track) || !isColumn(column)) {
            throw new IndexOutOfBoundsException("no such track or column");
        }
        return laid.netOn(track, column);
    }

    public int upright(int column, int row) throws IndexOutOfBoundsException {
        if (!isLaid || !isColumn(column) || row < -1 || row > laid.tracks) {
            throw new IndexOutOfBoundsException("no such column or row, or nothing is laid");
        }
        return uprightNet(column, row);
    }

    public boolean via(int track, int column) throws IndexOutOfBoundsException {
        if (!isTrack(track) || !isColumn(column)) {
            throw new IndexOutOfBoundsException("no such track or column");
        }
        return isVia(track, column);
    }

    public int density() {
        int most = 0;
        for (int column = 0; column < COLUMNS; column++) {
            most = Math.max(most, pins.longNetsAt(column));
        }
        return most;
    }

    public int pairs(boolean cuts) {
        draft.draw(pins, cuts);
        return draft.countPairs();
    }

    public int net(int net, int what) throws IndexOutOfBoundsException {
        if (!isNet(net)) {
            throw new IndexOutOfBoundsException("no such net");
        }
        switch (what) {
            case 0:
                return pins.isLong(net) ? pins.firstColumn(net) : NONE;
            case 1:
                return pins.isLong(net) ? pins.lastColumn(net) : NONE;
            case 2:
                return pins.pinsOf(net);
            case 3:
                return pins.kindOf(net);
            default:
                throw new IndexOutOfBoundsException("no such what");
        }
    }

    public int count(int what) throws IndexOutOfBoundsException {
        switch (what) {
            case 0:
                return laid.tracks;
            case 1:
                return laid.size;
            case 2:
                return countVias();
            case 3:
                return timesLaid;
            case 4:
                return timesRefused;
            case 5:
                return isLaid ? 1 : 0;
            default:
                throw new IndexOutOfBoundsException("no such what");
        }
    }

    public float used() {
        if (laid.tracks == 0) {
            return 0f;
        }
        return (float) laid.countPoints() / (float) (COLUMNS * laid.tracks);
    }

    private static boolean isColumn(int column) {
        return column >= 0 && column < COLUMNS;
    }

    private static boolean isNet(int net) {
        return net >= 1 && net <= NETS;
    }

    private boolean isTrack(int track) {
        return track >= 0 && track < laid.tracks;
    }

    private boolean draftHasRing(boolean cuts) {
        draft.draw(pins, cuts);
        return rings.lowestInRing(draft) != NONE;
    }

    private void tellRingOfDraft() {
        rings.tell(draft);
        timesRefused++;
    }

    private void keepDraft() {
        draft.fillTracks();
        Plan old = laid;
        laid = draft;
        draft = old;
        isLaid = true;
        timesLaid++;
    }

    // The pins are still those of the laying, since pin() takes away what was laid. The two nets of a
    // column never meet: all that touches it of the top's net lies above all of the bottom's.
    private int uprightNet(int column, int row) {
        int top = pins.top[column];
        int bottom = pins.bottom[column];
        if (top == bottom || row <= laid.greatestTrack(top, column)) {
            return top;
        }
        if (row >= laid.leastTrack(bottom, column)) {
            return bottom;
        }
        return NO_NET;
    }

    private boolean isVia(int track, int column) {
        int net = laid.netOn(track, column);
        return net != NO_NET && laid.touchesOn(track, column, net) && net == uprightNet(column, track);
    }

    private int countVias() {
        int vias = 0;
        for (int track = 0; track < laid.tracks; track++) {
            for (int column = 0; column < COLUMNS; column++) {
                if (isVia(track, column)) {
                    vias++;
                }
            }
        }
        return vias;
    }

    /** The pins as they are now, and what follows from them for the nets. */
    private static final class Pins {
        private final int[] top = new int[COLUMNS];
        private final int[] bottom = new int[COLUMNS];

        private int put(int column, boolean atTop, int net) {
            int[] row = atTop ? top : bottom;
            int before = row[column];
            row[column] = net;
            return before;
        }

        private boolean has(int net, int column) {
            return top[column] == net || bottom[column] == net;
        }

        private int pinsOf(int net) {
            int found = 0;
            for (int column = 0; column < COLUMNS; column++) {
                if (top[column] == net) {
                    found++;
                }
                if (bottom[column] == net) {
                    found++;
                }
            }
            return found;
        }

        private int firstColumn(int net) {
            for (int column = 0; column < COLUMNS; column++) {
                if (has(net, column)) {
                    return column;
                }
            }
            return NONE;
        }

        private int lastColumn(int net) {
            for (int column = COLUMNS - 1; column >= 0; column--) {
                if (has(net, column)) {
                    return column;
                }
            }
            return NONE;
        }

        // A column has two pins, so three of one net are never all in the same one.
        private int kindOf(int net) {
            int found = pinsOf(net);
            if (found == 0) {
                return WITHOUT_PINS;
            }
            if (found == 1) {
                return SINGLE;
            }
            return firstColumn(net) == lastColumn(net) ? STRAIGHT : LONG;
        }

        private boolean isLong(int net) {
            return kindOf(net) == LONG;
        }

        private boolean anySingle() {
            for (int net = 1; net <= NETS; net++) {
                if (kindOf(net) == SINGLE) {
                    return true;
                }
            }
            return false;
        }

        private int longNetsAt(int column) {
            int found = 0;
            for (int net = 1; net <= NETS; net++) {
                if (isLong(net) && firstColumn(net) <= column && column <= lastColumn(net)) {
                    found++;
                }
            }
            return found;
        }
    }

    /** The segments of the long nets, what has to lie above what among them, and their tracks. */
    private static final class Plan {
        private final int[] netOf = new int[MOST_SEGMENTS];
        private final int[] left = new int[MOST_SEGMENTS];
        private final int[] right = new int[MOST_SEGMENTS];
        private final int[] trackOf = new int[MOST_SEGMENTS];
        // Bit c of touched[i] is set if segment i touches column c.
        private final int[] touched = new int[MOST_SEGMENTS];
        // Bit y of below[x] is set if segment x has to be above segment y; all segments fit in a long.
        private final long[] below = new long[MOST_SEGMENTS];
        private final int[] byLeft = new int[MOST_SEGMENTS];
        private int size = 0;
        private int tracks = 0;

        private void clear() {
            size = 0;
            tracks = 0;
        }

        private void draw(Pins pins, boolean cuts) {
            clear();
            for (int net = 1; net <= NETS; net++) {
                if (pins.isLong(net)) {
                    if (cuts) {
                        addPieces(pins, net);
                    } else {
                        addWhole(pins, net);
                    }
                }
            }
            findBelow(pins);
        }

        private void addWhole(Pins pins, int net) {
            int columns = 0;
            for (int column = 0; column < COLUMNS; column++) {
                if (pins.has(net, column)) {
                    columns |= 1 << column;
                }
            }
            add(net, pins.firstColumn(net), pins.lastColumn(net), columns);
        }

        private void addPieces(Pins pins, int net) {
            int from = NONE;
            for (int column = 0; column < COLUMNS; column++) {
                if (pins.has(net, column)) {
                    if (from != NONE) {
                        add(net, from, column, 1 << from | 1 << column);
                    }
                    from = column;
                }
            }
        }

        private void add(int net, int from, int to, int columns) {
            if (size < MOST_SEGMENTS) {
                netOf[size] = net;
                left[size] = from;
                right[size] = to;
                touched[size] = columns;
                size++;
            }
        }

        private void findBelow(Pins pins) {
            Arrays.fill(below, 0L);
            for (int column = 0; column < COLUMNS; column++) {
                int top = pins.top[column];
                int bottom = pins.bottom[column];
                if (top != bottom) {
                    addBelow(touching(column, top), touching(column, bottom));
                }
            }
        }

        private void addBelow(long uppers, long lowers) {
            for (int x = 0; x < size; x++) {
                if (isIn(uppers, x)) {
                    below[x] |= lowers;
                }
            }
        }

        private long touching(int column, int net) {
            long found = 0L;
            for (int i = 0; i < size; i++) {
                if (touches(i, column, net)) {
                    found |= 1L << i;
                }
            }
            return found;
        }

        private boolean touches(int i, int column, int net) {
            return netOf[i] == net && (touched[i] >> column & 1) != 0;
        }

        private int countPairs() {
            int found = 0;
            for (int x = 0; x < size; x++) {
                found += Long.bitCount(below[x]);
            }
            return found;
        }

        // Without a ring each track takes one segment at least, so there are no more tracks than segments.
        private void fillTracks() {
            sortByLeft();
            long open = (1L << size) - 1L;
            tracks = 0;
            while (open != 0L && tracks < size) {
                open &= ~fillTrack(open & ~belowAnyOf(open));
                tracks++;
            }
        }

        private void sortByLeft() {
            int sorted = 0;
            for (int column = 0; column < COLUMNS; column++) {
                for (int i = 0; i < size; i++) {
                    if (left[i] == column) {
                        byLeft[sorted] = i;
                        sorted++;
                    }
                }
            }
        }

        private long belowAnyOf(long open) {
            long found = 0L;
            for (int x = 0; x < size; x++) {
                if (isIn(open, x)) {
                    found |= below[x];
                }
            }
            return found;
        }

        private long fillTrack(long ready) {
            long taken = 0L;
            int latest = NONE;
            for (int k = 0; k < size; k++) {
                int i = byLeft[k];
                if (isIn(ready, i) && fitsBehind(latest, i)) {
                    trackOf[i] = tracks;
                    taken |= 1L << i;
                    latest = i;
                }
            }
            return taken;
        }

        private boolean fitsBehind(int latest, int i) {
            if (latest == NONE || left[i] > right[latest]) {
                return true;
            }
            return left[i] == right[latest] && netOf[i] == netOf[latest];
        }

        private int netOn(int track, int column) {
            for (int i = 0; i < size; i++) {
                if (trackOf[i] == track && left[i] <= column && column <= right[i]) {
                    return netOf[i];
                }
            }
            return NO_NET;
        }

        private boolean touchesOn(int track, int column, int net) {
            for (int i = 0; i < size; i++) {
                if (trackOf[i] == track && touches(i, column, net)) {
                    return true;
                }
            }
            return false;
        }

        // Row -1, the pin itself, if nothing of the net touches the column.
        private int greatestTrack(int net, int column) {
            int greatest = -1;
            for (int i = 0; i < size; i++) {
                if (touches(i, column, net)) {
                    greatest = Math.max(greatest, trackOf[i]);
                }
            }
            return greatest;
        }

        // The bottom row, the pin itself, if nothing of the net touches the column.
        private int leastTrack(int net, int column) {
            int least = tracks;
            for (int i = 0; i < size; i++) {
                if (touches(i, column, net)) {
                    least = Math.min(least, trackOf[i]);
                }
            }
            return least;
        }

        private int countPoints() {
            int points = 0;
            for (int track = 0; track < tracks; track++) {
                for (int column = 0; column < COLUMNS; column++) {
                    if (netOn(track, column) != NO_NET) {
                        points++;
                    }
                }
            }
            return points;
        }

        private static boolean isIn(long set, int i) {
            return (set >> i & 1L) != 0L;
        }
    }

    /** Looks for rings in a plan, and keeps the one that was told latest. */
    private static final class RingSearch {
        private final long[] reach = new long[MOST_SEGMENTS];
        private final int[] steps = new int[MOST_SEGMENTS];
        private final int[] told = new int[MOST_SEGMENTS];
        private int length = 0;

        private int toldAt(int k) {
            return k >= 0 && k < length ? told[k] : NONE;
        }

        private int lowestInRing(Plan plan) {
            findReach(plan);
            for (int i = 0; i < plan.size; i++) {
                if (Plan.isIn(reach[i], i)) {
                    return i;
                }
            }
            return NONE;
        }

        // Warshall's way: after round m every way that goes only through segments 0 .. m is known.
        private void findReach(Plan plan) {
            System.arraycopy(plan.below, 0, reach, 0, MOST_SEGMENTS);
            for (int middle = 0; middle < plan.size; middle++) {
                for (int i = 0; i < plan.size; i++) {
                    if (Plan.isIn(reach[i], middle)) {
                        reach[i] |= reach[middle];
                    }
                }
            }
        }

        private void tell(Plan plan) {
            int first = lowestInRing(plan);
            length = 0;
            if (first == NONE) {
                return;
            }
            countStepsTo(plan, first);
            int at = first;
            do {
                told[length] = at;
                length++;
                at = nearestBelow(plan, at);
            } while (at != first && at != NONE && length < plan.size);
        }

        // steps[i] becomes the fewest steps from i down to the first one, NONE if no way leads there.
        private void countStepsTo(Plan plan, int first) {
            Arrays.fill(steps, NONE);
            steps[first] = 0;
            long near = 1L << first;
            for (int step = 1; step < plan.size; step++) {
                long nearer = near;
                for (int i = 0; i < plan.size; i++) {
                    if (steps[i] == NONE && (plan.below[i] & nearer) != 0L) {
                        steps[i] = step;
                        near |= 1L << i;
                    }
                }
            }
        }

        private int nearestBelow(Plan plan, int at) {
            int nearest = NONE;
            for (int i = 0; i < plan.size; i++) {
                if (Plan.isIn(plan.below[at], i) && steps[i] != NONE) {
                    if (nearest == NONE || steps[i] < steps[nearest]) {
                        nearest = i;
                    }
                }
            }
            return nearest;
        }
    }
}
