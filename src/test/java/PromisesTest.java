/** For each promise of the document: ordinary inputs, the edges that it names, and wrong inputs. */
public final class PromisesTest extends Checks {
    public static void main(String[] args) {
        newObject();
        pinAnswersTheNetBefore();
        pinTakesAwayWhatWasLaid();
        pinWrongInputs();
        layWithoutCutting();
        layGoesByLeftEndsThenNumbers();
        layJoinsPiecesOfOneNetOnly();
        layNothing();
        layWaitsForTracksBefore();
        layRefusesSingleNets();
        layRefusesRingsAndKeepsWhatWasLaid();
        layAnyCutsOnlyForARing();
        layAnyRefused();
        ringIsTheShortestFromTheLowest();
        ringTakesTheLowerOfEqualWays();
        ringSkipsWhatOnlyLeadsToIt();
        ringStaysUntilTheNextRefusal();
        segmentTellsWhatWasLaid();
        levelLayer();
        uprightLayer();
        uprightFromTheBottom();
        uprightOfOneNet();
        uprightWithoutTracks();
        vias();
        densityOfLongNets();
        pairsOfSegments();
        netKinds();
        counts();
        usedPart();
        fullChannel();
        end();
    }

    // ---- promise 1

    private static void newObject() {
        ChannelRouter x = new ChannelRouter();
        same("NONE", -1, ChannelRouter.NONE);
        for (int net = 1; net <= 9; net++) {
            nets("new", x, net, -1, -1, 0, 0);
        }
        counts("new", x, 0, 0, 0, 0, 0, 0);
        same("new density", 0, x.density());
        same("new pairs", 0, x.pairs(false));
        same("new pairs cut", 0, x.pairs(true));
        same("new used", 0f, x.used());
        same("new ring", -1, x.ring(0));
        outOfBounds("new upright", () -> x.upright(0, -1));
        outOfBounds("new upright 0", () -> x.upright(0, 0));
        outOfBounds("new level", () -> x.level(0, 0));
        outOfBounds("new via", () -> x.via(0, 0));
        outOfBounds("new segment", () -> x.segment(0, 0));
        for (int column = 0; column < 20; column++) {
            same("new top", 0, x.pin(column, true, 0));
            same("new bottom", 0, x.pin(column, false, 0));
        }
        ChannelRouter other = channel("11", "..");
        same("objects are apart", 0, new ChannelRouter().net(1, 2));
        same("objects are apart, other", 2, other.net(1, 2));
    }

    // ---- promise 2

    private static void pinAnswersTheNetBefore() {
        ChannelRouter x = new ChannelRouter();
        same("first", 0, x.pin(19, true, 9));
        same("top is not bottom", 0, x.pin(19, false, 1));
        same("again", 9, x.pin(19, true, 3));
        same("to none", 3, x.pin(19, true, 0));
        same("from none", 0, x.pin(19, true, 0));
        same("bottom", 1, x.pin(19, false, 1));
        same("column 0", 0, x.pin(0, false, 9));
        same("column 0 again", 9, x.pin(0, false, 9));
    }

    private static void pinTakesAwayWhatWasLaid() {
        ChannelRouter x = channel("11", "..");
        same("lay", 1, x.lay(false));
        x.pin(0, true, 1);
        counts("same pin again", x, 0, 0, 0, 1, 0, 0);
        same("used", 0f, x.used());
        outOfBounds("level", () -> x.level(0, 0));
        outOfBounds("via", () -> x.via(0, 0));
        outOfBounds("upright", () -> x.upright(0, -1));
        outOfBounds("segment", () -> x.segment(0, 0));
        same("lay again", 1, x.lay(false));
        same("none to none", 0, x.pin(19, false, 0));
        counts("none to none", x, 0, 0, 0, 2, 0, 0);
    }

    private static void pinWrongInputs() {
        ChannelRouter x = channel("11", "..");
        x.lay(false);
        outOfBounds("column 20", () -> x.pin(20, true, 1));
        outOfBounds("column -1", () -> x.pin(-1, true, 1));
        outOfBounds("column before net", () -> x.pin(20, false, 10));
        outOfBounds("column least", () -> x.pin(Integer.MIN_VALUE, false, -1));
        illegalArgument("net 10", () -> x.pin(0, true, 10));
        illegalArgument("net -1", () -> x.pin(0, true, -1));
        illegalArgument("net greatest", () -> x.pin(19, false, Integer.MAX_VALUE));
        counts("refused pins change nothing", x, 1, 1, 2, 1, 0, 1);
        same("still laid", 1, x.level(0, 1));
        same("still the net", 1, x.pin(0, true, 1));
    }

    // ---- promise 3

    private static void layWithoutCutting() {
        // 1 above 2 (column 0), 2 above 3 (column 2); 4 fits behind 1 on the uppermost track
        ChannelRouter x = channel("1124..4", "2.3..3.");
        same("tracks", 3, x.lay(false));
        segments("chain", x, "1 0 1 0", "2 0 2 1", "3 2 5 2", "4 3 6 0");
        ChannelRouter y = channel("99", "..");
        same("the last net", 1, y.lay(false));
        segments("the last net", y, "9 0 1 0");
    }

    private static void layGoesByLeftEndsThenNumbers() {
        ChannelRouter x = channel(".2.2.1.1", "........");
        same("by left ends", 1, x.lay(false));
        ChannelRouter y = channel("21..1.2.", "........");
        same("overlapping", 2, y.lay(false));
        segments("the leftmost is first", y, "1 1 4 1", "2 0 6 0");
        ChannelRouter z = channel("5.2.....", "5...52..");
        same("touching ends of two nets", 2, z.lay(false));
        ChannelRouter v = channel(".12.....", "1...2...");
        same("behind", 1, v.lay(false));
        ChannelRouter u = channel("1.12....", "....2.33");
        same("three behind one another", 1, u.lay(false));
        // 3 and 7 both begin in column 2, where 3 has to be above 7
        ChannelRouter w = channel("..3..7.3", "..7.....");
        same("one above the other", 2, w.lay(false));
        segments("one above the other", w, "3 2 7 0", "7 2 5 1");
        // 2 and 3 both have to be below 1; 3 begins further left, so it goes first
        ChannelRouter t = channel("11.5", "32.5");
        t.pin(3, true, 3);
        t.pin(3, false, 0);
        t.pin(6, true, 2);
        same("both below", 3, t.lay(false));
        segments("the leftmost of those below", t, "1 0 1 0", "2 1 6 2", "3 0 3 1");
    }

    private static void layJoinsPiecesOfOneNetOnly() {
        ChannelRouter x = channel("1.1.1", ".....");
        same("pieces join", 1, x.lay(true));
        segments("pieces join", x, "1 0 2 0", "1 2 4 0");
        // 2 begins where 1 ends, in column 2: another net, so no joining
        ChannelRouter y = channel("1.1..", "..2.2");
        same("other nets do not join", 2, y.lay(true));
        segments("other nets do not join", y, "1 0 2 0", "2 2 4 1");
        ChannelRouter z = channel("1.1.2", "....1");
        illegalArgument("2 is single", () -> z.lay(true));
        z.pin(7, true, 2);
        same("cut, 2 above the piece that ends there", 2, z.lay(true));
        segments("cut, 2 above the piece that ends there", z, "1 0 2 0", "1 2 4 1", "2 4 7 0");
    }

    private static void layNothing() {
        ChannelRouter x = new ChannelRouter();
        same("no pins", 0, x.lay(false));
        counts("no pins", x, 0, 0, 0, 1, 0, 1);
        same("no pins, cut", 0, x.lay(true));
        counts("no pins, cut", x, 0, 0, 0, 2, 0, 1);
        ChannelRouter y = channel("..4", "..4");
        same("straight", 0, y.lay(false));
        counts("straight", y, 0, 0, 0, 1, 0, 1);
    }

    private static void layWaitsForTracksBefore() {
        // 1 above 2: 2 must not come on track 0, though it would fit behind 3
        ChannelRouter x = channel("33.1..1", "...2.2.");
        same("not on the same track", 2, x.lay(false));
        segments("not on the same track", x, "1 3 6 0", "2 3 5 1", "3 0 1 0");
        // only the ones above count: 2 touches column 3 without a pin of another net there
        ChannelRouter y = channel("11.2..", ".....2");
        same("free", 1, y.lay(false));
        // without cutting an inner pin counts, too: 1 above 2 in column 2
        ChannelRouter z = channel("2.1..1", "..2..2");
        same("inner pin", 2, z.lay(false));
        segments("inner pin", z, "1 2 5 0", "2 0 5 1");
    }

    private static void layRefusesSingleNets() {
        ChannelRouter x = channel("11..", "....");
        x.lay(false);
        ChannelRouter y = channel("11.2", "....");
        illegalArgument("single", () -> y.lay(false));
        illegalArgument("single, cut", () -> y.lay(true));
        illegalArgument("single, any", () -> y.layAny());
        counts("single", y, 0, 0, 0, 0, 0, 0);
        // a single net is told before a ring
        ChannelRouter z = channel("12.9", "21..");
        illegalArgument("single before ring", () -> z.lay(false));
        illegalArgument("single before ring, any", () -> z.layAny());
        counts("single before ring", z, 0, 0, 0, 0, 0, 0);
        same("no ring is told", -1, z.ring(0));
    }

    private static void layRefusesRingsAndKeepsWhatWasLaid() {
        ChannelRouter x = channel("1..1..2", "2.....1");
        same("cut", 1003, x.layAny());
        illegalState("not cut", () -> x.lay(false));
        same("ring 0", 0, x.ring(0));
        same("ring 1", 1, x.ring(1));
        same("ring 2", -1, x.ring(2));
        counts("what was laid stays", x, 3, 3, 6, 1, 1, 1);
        segments("what was laid stays", x, "1 0 3 0", "1 3 6 2", "2 0 6 1");
        same("wiring stays", 1, x.upright(3, 2));
        same("pairs do not change it", 2, x.pairs(false));
        segments("still", x, "1 0 3 0", "1 3 6 2", "2 0 6 1");
        same("cut again", 3, x.lay(true));
        counts("cut again", x, 3, 3, 6, 2, 1, 1);
    }

    // ---- promise 4

    private static void layAnyCutsOnlyForARing() {
        ChannelRouter x = channel("1.1.1", ".....");
        same("not cut", 1, x.layAny());
        segments("not cut", x, "1 0 4 0");
        ChannelRouter y = channel("1..1..2", "2.....1");
        same("cut", 1003, y.layAny());
        segments("cut", y, "1 0 3 0", "1 3 6 2", "2 0 6 1");
        counts("no refusal", y, 3, 3, 6, 1, 0, 1);
        same("no ring is told", -1, y.ring(0));
        same("nothing", 0, new ChannelRouter().layAny());
    }

    private static void layAnyRefused() {
        ChannelRouter x = channel("12", "21");
        illegalState("ring with cutting", () -> x.layAny());
        counts("one refusal", x, 0, 0, 0, 0, 1, 0);
        same("told", 0, x.ring(0));
        same("told 1", 1, x.ring(1));
        same("told 2", -1, x.ring(2));
        // with cutting: 1 has the segments 0 and 1, 2 has 2; the ring is 1, 2, without cutting it were 0, 1
        ChannelRouter y = channel("1.12", "..21");
        illegalState("ring of the pieces", () -> y.layAny());
        same("piece 1", 1, y.ring(0));
        same("piece 2", 2, y.ring(1));
        same("end", -1, y.ring(2));
        illegalState("whole", () -> y.lay(false));
        same("whole 0", 0, y.ring(0));
        same("whole 1", 1, y.ring(1));
        same("whole end", -1, y.ring(2));
        counts("two refusals", y, 0, 0, 0, 0, 2, 0);
    }

    // ---- promise 5

    private static void ringIsTheShortestFromTheLowest() {
        // 1 above 2 above 4 above 1, and 1 above 3 above 1
        ChannelRouter x = channel("12413", "24131");
        illegalState("ring", () -> x.lay(false));
        ring("the shorter way", x, 0, 2);
        // 1 above 3 above 2 above 1
        ChannelRouter y = channel("132", "321");
        illegalState("ring", () -> y.lay(false));
        ring("three", y, 0, 2, 1);
        // 1 above 2, 1 above 3, 2 above 4, 3 above 4, 4 above 1
        ChannelRouter z = channel("11324", "32441");
        illegalState("ring", () -> z.lay(false));
        ring("of equal ways the lower", z, 0, 1, 3);
    }

    private static void ringTakesTheLowerOfEqualWays() {
        ChannelRouter x = channel("1312", "3121");
        illegalState("ring", () -> x.lay(false));
        ring("the lower one", x, 0, 1);
        // 1 above 2, 2 above 1: the shortest; 2 above 3 above 1 is longer
        ChannelRouter y = channel("1232", "2311");
        illegalState("ring", () -> y.lay(false));
        ring("back at once", y, 0, 1);
    }

    private static void ringSkipsWhatOnlyLeadsToIt() {
        // 1 above 2 leads into the ring of 2 and 3; 3 above 4 leads out of it
        ChannelRouter x = channel("1234.1", "2324.4");
        x.pin(4, true, 3);
        x.pin(4, false, 4);
        x.pin(3, true, 0);
        illegalState("ring", () -> x.lay(false));
        ring("not what leads to it", x, 1, 2);
        // two rings: of 2 and 3, and of 5 and 6
        ChannelRouter y = channel("5623", "6532");
        illegalState("ring", () -> y.lay(false));
        ring("the lower ring", y, 0, 1);
        y.pin(2, true, 0);
        y.pin(3, true, 2);
        y.pin(4, true, 3);
        y.pin(5, true, 3);
        y.pin(3, false, 2);
        y.pin(2, false, 2);
        illegalState("other ring", () -> y.lay(false));
        ring("the ring of 5 and 6", y, 2, 3);
    }

    private static void ringStaysUntilTheNextRefusal() {
        ChannelRouter x = channel("132", "321");
        same("before", -1, x.ring(0));
        illegalState("ring", () -> x.lay(false));
        ring("told", x, 0, 2, 1);
        x.pin(0, true, 0);
        ring("after pin", x, 0, 2, 1);
        illegalArgument("single", () -> x.lay(false));
        ring("after a single net", x, 0, 2, 1);
        x.pin(2, false, 0);
        same("no ring now", 2, x.lay(false));
        ring("after laying", x, 0, 2, 1);
        for (int column = 0; column < 3; column++) {
            x.pin(column, true, 0);
            x.pin(column, false, 0);
        }
        ring("without segments", x, 0, 2, 1);
        x.pin(0, true, 1);
        x.pin(0, false, 2);
        x.pin(1, true, 2);
        x.pin(1, false, 1);
        illegalState("shorter ring", () -> x.layAny());
        ring("the new one alone", x, 0, 1);
        same("greatest", -1, x.ring(Integer.MAX_VALUE));
        same("least", -1, x.ring(Integer.MIN_VALUE));
    }

    // ---- promise 6

    private static void segmentTellsWhatWasLaid() {
        ChannelRouter x = channel("1..1..2", "2.....1");
        x.layAny();
        segments("all", x, "1 0 3 0", "1 3 6 2", "2 0 6 1");
        outOfBounds("3", () -> x.segment(3, 0));
        outOfBounds("-1", () -> x.segment(-1, 0));
        outOfBounds("what 4", () -> x.segment(0, 4));
        outOfBounds("what -1", () -> x.segment(0, -1));
        outOfBounds("greatest", () -> x.segment(Integer.MAX_VALUE, Integer.MAX_VALUE));
        // straight nets have no segments
        ChannelRouter y = channel("2.13.3", "2.1..1");
        y.lay(true);
        segments("no straight nets", y, "1 2 5 1", "3 3 5 0");
    }

    // ---- promise 7

    private static void levelLayer() {
        ChannelRouter x = channel("11.3.3.2", "......2.");
        x.lay(false);
        int[] row = {1, 1, 0, 3, 3, 3, 2, 2, 0};
        for (int column = 0; column < row.length; column++) {
            same("column " + column, row[column], x.level(0, column));
        }
        same("column 19", 0, x.level(0, 19));
        outOfBounds("column 20", () -> x.level(0, 20));
        outOfBounds("column -1", () -> x.level(0, -1));
        outOfBounds("track 1", () -> x.level(1, 0));
        outOfBounds("track -1", () -> x.level(-1, 0));
    }

    // ---- promise 8

    private static void uprightLayer() {
        ChannelRouter x = channel("1..1..2", "2.....1");
        x.layAny();
        upright("column 0", x, 0, 1, 1, 2, 2, 2);
        upright("column 1", x, 1, 0, 0, 0, 0, 0);
        upright("column 3", x, 3, 1, 1, 1, 1, 0);
        upright("column 6", x, 6, 2, 2, 2, 1, 1);
        outOfBounds("row 4", () -> x.upright(0, 4));
        outOfBounds("row -2", () -> x.upright(0, -2));
        outOfBounds("column 20", () -> x.upright(20, 0));
        outOfBounds("column -1", () -> x.upright(-1, 0));
    }

    private static void uprightFromTheBottom() {
        ChannelRouter x = channel("1.....2", "2..1..1");
        same("cut", 1003, x.layAny());
        upright("from the least track", x, 3, 0, 1, 1, 1, 1);
        // 1 above 2 above 3, and 3 has its other pin alone
        ChannelRouter y = channel("123.1", "23.3.");
        same("chain", 3, y.lay(false));
        upright("a gap between", y, 0, 1, 1, 2, 2, 2);
        upright("at the bottom", y, 3, 0, 0, 0, 3, 3);
        upright("at the top", y, 4, 1, 1, 0, 0, 0);
        y.pin(5, true, 1);
        y.pin(5, false, 3);
        same("chain again", 3, y.lay(false));
        upright("nothing in the middle", y, 5, 1, 1, 0, 3, 3);
    }

    private static void uprightOfOneNet() {
        ChannelRouter x = channel("11.5", "1.25");
        x.pin(0, true, 1);
        x.pin(6, false, 2);
        same("lay", 1, x.lay(false));
        upright("long", x, 0, 1, 1, 1);
        upright("straight", x, 3, 5, 5, 5);
        same("no via of a straight net", false, x.via(0, 3));
        same("2 passes by", 2, x.level(0, 3));
    }

    private static void uprightWithoutTracks() {
        ChannelRouter x = channel("4", "4");
        x.lay(false);
        upright("straight", x, 0, 4, 4);
        upright("none", x, 19, 0, 0);
        outOfBounds("row 1", () -> x.upright(0, 1));
        outOfBounds("level", () -> x.level(0, 0));
        outOfBounds("via", () -> x.via(0, 0));
        same("used", 0f, x.used());
    }

    // ---- promise 9

    private static void vias() {
        ChannelRouter x = channel("1..1..2", "2.....1");
        x.layAny();
        boolean[][] due = new boolean[3][20];
        due[0][0] = true;
        due[0][3] = true;
        due[1][0] = true;
        due[1][6] = true;
        due[2][3] = true;
        due[2][6] = true;
        for (int track = 0; track < 3; track++) {
            for (int column = 0; column < 20; column++) {
                same("via " + track + " " + column, due[track][column], x.via(track, column));
            }
        }
        outOfBounds("track 3", () -> x.via(3, 0));
        outOfBounds("track -1", () -> x.via(-1, 0));
        outOfBounds("column 20", () -> x.via(0, 20));
        outOfBounds("column -1", () -> x.via(0, -1));
        // an inner pin of a net that is not cut
        ChannelRouter y = channel("1.1.1", "..1..");
        y.lay(false);
        same("inner pin", true, y.via(0, 2));
        same("no pin", false, y.via(0, 1));
        counts("one via where pieces meet", y, 1, 1, 3, 1, 0, 1);
        y.lay(true);
        counts("one via where pieces meet, cut", y, 1, 2, 3, 2, 0, 1);
    }

    // ---- promise 10

    private static void densityOfLongNets() {
        same("ends count", 2, channel("1.1..", "..2.2").density());
        same("behind one another", 1, channel("11.22", ".....").density());
        same("single and straight do not", 1, channel("1.23.1", "..2...").density());
        same("straight between", 1, channel("1.2..1", "..2...").density());
        same("5 is straight", 8, channel("123456789", "987654321").density());
        same("nine", 9, channel("123456789123456789", "..................").density());
        same("three pins, two in one column", 1, channel("1..1", "1...").density());
        ChannelRouter x = new ChannelRouter();
        x.pin(0, true, 1);
        x.pin(19, false, 1);
        x.pin(19, true, 2);
        x.pin(18, true, 2);
        same("last column", 2, x.density());
    }

    // ---- promise 11

    private static void pairsOfSegments() {
        ChannelRouter x = channel("1.1.1", "2.2.2");
        same("one pair, told three times", 1, x.pairs(false));
        // 0, 1 of net 1 and 2, 3 of net 2: column 2 makes all four, the others nothing new
        same("cut", 4, x.pairs(true));
        counts("nothing is laid", x, 0, 0, 0, 0, 0, 0);
        same("both ways", 2, channel("12", "21").pairs(false));
        same("single nets have no segments", 0, channel("12", "31").pairs(false));
        same("one net", 0, channel("11", "11").pairs(true));
        same("inner pin", 1, channel("1.1.1", "..22.").pairs(false));
        same("inner pin, cut", 2, channel("1.1.1", "..22.").pairs(true));
        ChannelRouter y = channel("11", "22");
        y.lay(false);
        same("as they would be now, laid", 1, y.pairs(true));
        y.pin(0, false, 3);
        same("as they would be now", 0, y.pairs(true));
    }

    // ---- promise 12

    private static void netKinds() {
        ChannelRouter x = channel("1.2.33.9", "..2.3...");
        x.pin(19, false, 9);
        nets("single", x, 1, -1, -1, 1, 1);
        nets("straight", x, 2, -1, -1, 2, 2);
        nets("long", x, 3, 4, 5, 3, 3);
        nets("none", x, 4, -1, -1, 0, 0);
        nets("last", x, 9, 7, 19, 2, 3);
        x.pin(19, false, 0);
        nets("single again", x, 9, -1, -1, 1, 1);
        outOfBounds("net 0", () -> x.net(0, 2));
        outOfBounds("net 10", () -> x.net(10, 2));
        outOfBounds("net -1", () -> x.net(-1, 2));
        outOfBounds("what 4", () -> x.net(1, 4));
        outOfBounds("what -1", () -> x.net(1, -1));
        ChannelRouter y = new ChannelRouter();
        for (int column = 0; column < 20; column++) {
            y.pin(column, true, 7);
            y.pin(column, false, 7);
        }
        nets("all pins", y, 7, 0, 19, 40, 3);
    }

    // ---- promise 13

    private static void counts() {
        ChannelRouter x = channel("1..1..2", "2.....1");
        illegalState("ring", () -> x.lay(false));
        counts("refused", x, 0, 0, 0, 0, 1, 0);
        x.layAny();
        counts("laid", x, 3, 3, 6, 1, 1, 1);
        x.lay(true);
        counts("laid again", x, 3, 3, 6, 2, 1, 1);
        x.pin(6, true, 0);
        counts("pin", x, 0, 0, 0, 2, 1, 0);
        illegalArgument("single", () -> x.layAny());
        counts("single", x, 0, 0, 0, 2, 1, 0);
        outOfBounds("6", () -> x.count(6));
        outOfBounds("-1", () -> x.count(-1));
        outOfBounds("least", () -> x.count(Integer.MIN_VALUE));
    }

    // ---- promise 14

    private static void usedPart() {
        ChannelRouter x = channel("1..1..2", "2.....1");
        x.layAny();
        same("15 of 60", 0.25f, x.used());
        ChannelRouter y = channel("1.1.1", ".....");
        y.lay(true);
        same("5 of 20, the meeting point once", 0.25f, y.used());
        ChannelRouter z = channel("123", "231");
        z.pin(2, false, 0);
        z.pin(3, true, 1);
        z.lay(false);
        same("4 and 2 and 2 of 60", 8f / 60f, z.used());
        ChannelRouter w = new ChannelRouter();
        w.pin(0, true, 1);
        w.pin(19, true, 1);
        w.lay(false);
        same("all", 1f, w.used());
    }

    // ---- the greatest number of segments and tracks

    private static void fullChannel() {
        ChannelRouter x = new ChannelRouter();
        for (int column = 0; column < 20; column++) {
            x.pin(column, true, 1);
            x.pin(column, false, 2);
        }
        // each inner column adds, to the pairs side by side, the two across it
        same("pairs", 19 + 18 * 2, x.pairs(true));
        same("whole", 2, x.lay(false));
        same("used whole", 1f, x.used());
        same("cut", 2, x.lay(true));
        counts("cut", x, 2, 38, 40, 2, 0, 1);
        same("last net", 2, x.segment(37, 0));
        same("last right", 19, x.segment(37, 2));
        same("used", 1f, x.used());
        outOfBounds("38", () -> x.segment(38, 0));
    }
}
