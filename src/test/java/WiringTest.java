import java.util.Random;

/**
 * The document's first sentence: the wiring can be searched for shorts and for what is not connected. A laid
 * channel is searched through upright(), level() and via() alone, and must have neither.
 */
public final class WiringTest extends Checks {
    private static final int CHANNELS = 3000;
    private static final int COLUMNS = 20;
    private static final int NETS = 9;

    // The nets' pins: [0] at the top, [1] at the bottom.
    private final int[][] pins = new int[2][COLUMNS];
    private int tracks;
    private int[][] upright;
    private int[][] level;
    private boolean[][] via;
    private boolean[][] uprightSeen;
    private boolean[][] levelSeen;

    public static void main(String[] args) {
        Random random = new Random(8);
        int[] searched = new int[2];
        for (int k = 0; k < CHANNELS; k++) {
            WiringTest channel = new WiringTest();
            channel.drawPins(random);
            searched[0] += channel.search(false) ? 1 : 0;
            searched[1] += channel.search(true) ? 1 : 0;
        }
        same("enough channels are laid without cutting", true, searched[0] > CHANNELS / 10);
        same("enough channels are laid with cutting", true, searched[1] > CHANNELS / 10);
        end();
    }

    // Mostly the lower net is at the top, so that there are not rings everywhere.
    private void drawPins(Random random) {
        int columns = 2 + random.nextInt(COLUMNS - 1);
        int nets = 1 + random.nextInt(NETS);
        for (int column = 0; column < columns; column++) {
            int one = random.nextInt(nets + 1);
            int other = random.nextInt(nets + 1);
            boolean ordered = random.nextInt(10) > 0;
            pins[0][column] = ordered ? Math.min(one, other) : one;
            pins[1][column] = ordered ? Math.max(one, other) : other;
        }
        for (int net = 1; net <= NETS; net++) {
            if (pinsOf(net) == 1) {
                takeAway(net);
            }
        }
    }

    private int pinsOf(int net) {
        int found = 0;
        for (int column = 0; column < COLUMNS; column++) {
            found += pins[0][column] == net ? 1 : 0;
            found += pins[1][column] == net ? 1 : 0;
        }
        return found;
    }

    private void takeAway(int net) {
        for (int[] row : pins) {
            for (int column = 0; column < COLUMNS; column++) {
                row[column] = row[column] == net ? 0 : row[column];
            }
        }
    }

    private ChannelRouter newChannel() {
        ChannelRouter x = new ChannelRouter();
        for (int column = 0; column < COLUMNS; column++) {
            x.pin(column, true, pins[0][column]);
            x.pin(column, false, pins[1][column]);
        }
        return x;
    }

    private boolean search(boolean cuts) {
        try {
            tracks = newChannel().lay(cuts);
        } catch (IllegalStateException e) {
            return false;
        }
        look(cuts);
        for (int column = 0; column < COLUMNS; column++) {
            same("the wire at the top pin", pins[0][column], upright[0][column]);
            same("the wire at the bottom pin", pins[1][column], upright[tracks + 1][column]);
        }
        for (int net = 1; net <= NETS; net++) {
            if (pinsOf(net) > 0) {
                searchFrom(net);
            }
        }
        return true;
    }

    // An object answers 512 calls, too few for a whole wiring, so each column is looked at in one of its own.
    private void look(boolean cuts) {
        upright = new int[tracks + 2][COLUMNS];
        level = new int[tracks][COLUMNS];
        via = new boolean[tracks][COLUMNS];
        for (int column = 0; column < COLUMNS; column++) {
            ChannelRouter x = newChannel();
            x.lay(cuts);
            for (int row = -1; row <= tracks; row++) {
                upright[row + 1][column] = x.upright(column, row);
            }
            for (int track = 0; track < tracks; track++) {
                level[track][column] = x.level(track, column);
                via[track][column] = x.via(track, column);
            }
        }
    }

    private void searchFrom(int net) {
        levelSeen = new boolean[tracks][COLUMNS];
        uprightSeen = new boolean[tracks + 2][COLUMNS];
        int column = 0;
        while (pins[0][column] != net && pins[1][column] != net) {
            column++;
        }
        walkUpright(net, column, pins[0][column] == net ? -1 : tracks);
        for (int c = 0; c < COLUMNS; c++) {
            comparePoints(net, c);
        }
    }

    // From a point one comes to the next ones in the same layer and, by a via, to the other layer.
    private void walkUpright(int net, int column, int row) {
        if (row < -1 || row > tracks || uprightSeen[row + 1][column] || upright[row + 1][column] != net) {
            return;
        }
        uprightSeen[row + 1][column] = true;
        walkUpright(net, column, row - 1);
        walkUpright(net, column, row + 1);
        if (row >= 0 && row < tracks && via[row][column]) {
            same("short by a via", net, level[row][column]);
            walkLevel(net, row, column);
        }
    }

    private void walkLevel(int net, int track, int column) {
        if (column < 0 || column >= COLUMNS || levelSeen[track][column] || level[track][column] != net) {
            return;
        }
        levelSeen[track][column] = true;
        walkLevel(net, track, column - 1);
        walkLevel(net, track, column + 1);
        if (via[track][column]) {
            same("short by a via", net, upright[track + 1][column]);
            walkUpright(net, column, track);
        }
    }

    private void comparePoints(int net, int column) {
        for (int row = -1; row <= tracks; row++) {
            same("connected, upright", upright[row + 1][column] == net, uprightSeen[row + 1][column]);
        }
        for (int track = 0; track < tracks; track++) {
            same("connected, level", level[track][column] == net, levelSeen[track][column]);
        }
    }
}
