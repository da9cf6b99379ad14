/** One test for each sentence of the document's promises 1 to 14 that names a boundary case. */
public final class PromisesBoundaryTest extends Checks {
    private static final int LEAST = Integer.MIN_VALUE;
    private static final int GREATEST = Integer.MAX_VALUE;

    public static void main(String[] args) {
        newAndPin();
        layings();
        ringAndSegment();
        wiring();
        nets();
        countAndUsed();
        end();
    }

    private static void newAndPin() {
        test("1: No pins", PromisesBoundaryTest::newHasNoPins);
        test("1: nothing laid", PromisesBoundaryTest::newHasNothingLaid);
        test("1: each object has pins of its own", PromisesBoundaryTest::objectsAreApart);
        test("2: or (0) none", PromisesBoundaryTest::pinBecomesNone);
        test("2: what was laid is gone", PromisesBoundaryTest::pinTakesAwayWhatWasLaid);
        test("2: what was laid is gone, the net being the same", PromisesBoundaryTest::samePinTakesAwayToo);
        test("2: which net it was of", PromisesBoundaryTest::pinTellsTheNetBefore);
        test("2: there is no such column", PromisesBoundaryTest::pinWithoutSuchAColumn);
        test("2: net is not 0 .. 9", PromisesBoundaryTest::pinWithoutSuchANet);
        test("2: a refused pin leaves the pin", PromisesBoundaryTest::refusedPinLeavesThePin);
    }

    private static void layings() {
        test("3: how many tracks there are: none", PromisesBoundaryTest::layNothing);
        test("3: how many tracks there are: one, nine", PromisesBoundaryTest::layFewAndMany);
        test("3: how many tracks there are: the most that are known", PromisesBoundaryTest::layVeryMany);
        test("3: Lays all segments anew", PromisesBoundaryTest::layAgain);
        test("3: with cutting or not", PromisesBoundaryTest::cuttingSavesTracks);
        test("3: some net is single", PromisesBoundaryTest::layWithASingleNet);
        test("3: there is a ring, which is told then", PromisesBoundaryTest::layWithARing);
        test("3: there is a ring, with cutting", PromisesBoundaryTest::layWithARingOfPieces);
        test("4: As lay(false)", PromisesBoundaryTest::layAnyDoesNotCutWithoutARing);
        test("4: how many tracks there are: none", PromisesBoundaryTest::layAnyNothing);
        test("4: 1000 if it was cut", PromisesBoundaryTest::layAnyCutsForARing);
        test("4: 1000 + how many tracks: the most that are known", PromisesBoundaryTest::layAnyVeryMany);
        test("4: some net is single", PromisesBoundaryTest::layAnyWithASingleNet);
        test("4: a ring with cutting, too, which is told then", PromisesBoundaryTest::layAnyWithARing);
        test("4: a ring without cutting alone is not told", PromisesBoundaryTest::layAnyTellsNoRingThatItCuts);
    }

    private static void ringAndSegment() {
        test("5: NONE before any refusal", PromisesBoundaryTest::noRingAtFirst);
        test("5: k (from 0); NONE if there is none such", PromisesBoundaryTest::ringBeyondItsEnds);
        test("5: the latest that was refused for one", PromisesBoundaryTest::ringIsTheLatest);
        test("5: a shorter ring leaves nothing of a longer one", PromisesBoundaryTest::shorterRingReplacesAll);
        test("5: refused for one: not for a single net", PromisesBoundaryTest::ringOutlivesOtherRefusals);
        test("5: refused: not one that laid", PromisesBoundaryTest::ringOutlivesLayings);
        test("5: The number that the segment had then", PromisesBoundaryTest::ringKeepsItsNumbers);
        test("6: there is none such", PromisesBoundaryTest::segmentWithoutSuchANumber);
        test("6: or no such what", PromisesBoundaryTest::segmentWithoutSuchAWhat);
        test("6: there is none such, nothing being laid", PromisesBoundaryTest::segmentWithNothingLaid);
        test("6: as it was laid", PromisesBoundaryTest::segmentAsItWasLaid);
    }

    private static void wiring() {
        test("7: 0 for none", PromisesBoundaryTest::levelOfNone);
        test("7: no such track", PromisesBoundaryTest::levelWithoutSuchATrack);
        test("7: or column", PromisesBoundaryTest::levelWithoutSuchAColumn);
        test("8: at a row (-1 .. tracks)", PromisesBoundaryTest::uprightAtOuterRows);
        test("8: 0 for none", PromisesBoundaryTest::uprightOfNone);
        test("8: no such column", PromisesBoundaryTest::uprightWithoutSuchAColumn);
        test("8: or row", PromisesBoundaryTest::uprightWithoutSuchARow);
        test("8: or nothing is laid", PromisesBoundaryTest::uprightWithNothingLaid);
        test("8: laid without tracks: rows -1 and 0", PromisesBoundaryTest::uprightWithoutTracks);
        test("9: no such track", PromisesBoundaryTest::viaWithoutSuchATrack);
        test("9: or column", PromisesBoundaryTest::viaWithoutSuchAColumn);
    }

    private static void nets() {
        test("10: none, and all", PromisesBoundaryTest::leastAndGreatestDensity);
        test("10: of the pins, not of what is laid", PromisesBoundaryTest::densityOfThePinsNow);
        test("11: none", PromisesBoundaryTest::noPairs);
        test("11: each pair once", PromisesBoundaryTest::pairsInManyColumns);
        test("11: (x above y) and (y above x) are two", PromisesBoundaryTest::pairsBothWays);
        test("11: the most of two nets", PromisesBoundaryTest::pairsOfAllPieces);
        test("11: as they would be now", PromisesBoundaryTest::pairsAsTheyWouldBeNow);
        test("12: how many pins: none, all", PromisesBoundaryTest::netWithNoneAndAllPins);
        test("12: 0, 1, 2, 3 pin by pin", PromisesBoundaryTest::netGrowsAndShrinks);
        test("12: NONE for 0 and 1 if it is not long", PromisesBoundaryTest::netThatIsNotLong);
        test("12: column 0 is not NONE", PromisesBoundaryTest::netInOuterColumns);
        test("12: no such net", PromisesBoundaryTest::netWithoutSuchANumber);
        test("12: or what", PromisesBoundaryTest::netWithoutSuchAWhat);
    }

    private static void countAndUsed() {
        test("13: 0 .. 5 of a new object", PromisesBoundaryTest::countsOfANewObject);
        test("13: 0 tracks, 1 segments, 2 vias: the most", PromisesBoundaryTest::countsOfAFullChannel);
        test("13: 3 how often laid, 4 refused, since the beginning", PromisesBoundaryTest::countsSinceTheBeginning);
        test("13: 4 refused for a ring, not for a single net", PromisesBoundaryTest::countsOfSingleRefusals);
        test("13: 3, 4 of one layAny() are one", PromisesBoundaryTest::countsOfLayAny);
        test("13: 5 whether something is laid now", PromisesBoundaryTest::countOfLaidNow);
        test("13: 3, 5 of a laying without segments", PromisesBoundaryTest::countsOfAnEmptyLaying);
        test("13: none of these", PromisesBoundaryTest::countWithoutSuchAWhat);
        test("14: 0f without tracks", PromisesBoundaryTest::usedWithoutTracks);
        test("14: all points", PromisesBoundaryTest::usedWholly);
        test("14: the fewest points", PromisesBoundaryTest::usedLeast);
        test("14: points where two pieces meet count once", PromisesBoundaryTest::usedWherePiecesMeet);
        test("14: as a float", PromisesBoundaryTest::usedAsAFloat);
    }

    // ---- channels that are used by more than one test

    /** A ring, unless net 1 is cut in column 3; then three tracks. */
    private static ChannelRouter crossed() {
        return channel("1..1..2", "2.....1");
    }

    /** A ring of two, with cutting too. */
    private static ChannelRouter locked() {
        return channel("12", "21");
    }

    /** Pins of one net everywhere. */
    private static ChannelRouter filled(int net) {
        ChannelRouter x = new ChannelRouter();
        for (int column = 0; column < 20; column++) {
            x.pin(column, true, net);
            x.pin(column, false, net);
        }
        return x;
    }

    // ---- promise 1

    private static void newHasNoPins() {
        ChannelRouter x = new ChannelRouter();
        for (int net = 1; net <= 9; net++) {
            nets("new", x, net, -1, -1, 0, 0);
        }
        for (int column = 0; column < 20; column++) {
            same("top " + column, 0, x.pin(column, true, 0));
            same("bottom " + column, 0, x.pin(column, false, 0));
        }
    }

    private static void newHasNothingLaid() {
        ChannelRouter x = new ChannelRouter();
        nothingIsLaid("new", x);
        same("no ring is told", -1, x.ring(0));
        same("nothing was laid", 0, x.count(3));
        same("nothing was refused", 0, x.count(4));
    }

    private static void objectsAreApart() {
        ChannelRouter x = channel("11", "..");
        x.lay(false);
        ChannelRouter y = locked();
        illegalState("ring", () -> y.lay(false));
        ChannelRouter z = new ChannelRouter();
        same("pins", 0, z.net(1, 2));
        nothingIsLaid("laid", z);
        counts("counts", z, 0, 0, 0, 0, 0, 0);
        same("ring", -1, z.ring(0));
        counts("the other's counts", x, 1, 1, 2, 1, 0, 1);
        same("the other's ring", -1, x.ring(0));
    }

    // ---- promise 2

    private static void pinBecomesNone() {
        ChannelRouter x = channel("11.1", "....");
        same("to none", 1, x.pin(3, true, 0));
        nets("one less", x, 1, 0, 1, 2, 3);
        same("it is none now", 0, x.pin(3, true, 0));
        x.pin(0, true, 0);
        x.pin(1, true, 0);
        nets("without pins", x, 1, -1, -1, 0, 0);
        same("nothing to lay", 0, x.lay(false));
    }

    private static void pinTakesAwayWhatWasLaid() {
        ChannelRouter x = channel("11", "..");
        same("lay", 1, x.lay(false));
        x.pin(19, false, 2);
        nothingIsLaid("another net, far away", x);
        x.pin(19, false, 0);
        nothingIsLaid("as it was, but not laid", x);
        same("lay again", 1, x.lay(false));
        same("segments", 1, x.count(1));
    }

    private static void samePinTakesAwayToo() {
        ChannelRouter x = channel("11", "..");
        x.lay(false);
        same("the same net", 1, x.pin(0, true, 1));
        nothingIsLaid("the same net", x);
        x.lay(false);
        same("none again", 0, x.pin(19, false, 0));
        nothingIsLaid("none again", x);
        ChannelRouter y = new ChannelRouter();
        y.lay(false);
        same("none in an empty channel", 0, y.pin(0, true, 0));
        nothingIsLaid("none in an empty channel", y);
    }

    private static void pinTellsTheNetBefore() {
        ChannelRouter x = new ChannelRouter();
        same("none before", 0, x.pin(19, true, 9));
        same("the last net", 9, x.pin(19, true, 1));
        same("the first net", 1, x.pin(19, true, 1));
        same("the same one", 1, x.pin(19, true, 0));
        same("none again", 0, x.pin(19, true, 0));
        same("the bottom", 0, x.pin(0, false, 9));
        same("the top of that column", 0, x.pin(0, true, 0));
        same("the bottom again", 9, x.pin(0, false, 0));
    }

    private static void pinWithoutSuchAColumn() {
        ChannelRouter x = new ChannelRouter();
        int[] wrongColumns = {-1, 20, 32, LEAST, GREATEST};
        for (int column : wrongColumns) {
            outOfBounds("top " + column, () -> x.pin(column, true, 1));
            outOfBounds("bottom " + column, () -> x.pin(column, false, 0));
        }
        same("column 0", 0, x.pin(0, true, 1));
        same("column 19", 0, x.pin(19, true, 1));
        nets("only these", x, 1, 0, 19, 2, 3);
    }

    private static void pinWithoutSuchANet() {
        ChannelRouter x = new ChannelRouter();
        int[] wrongNets = {-1, 10, LEAST, GREATEST};
        for (int net : wrongNets) {
            illegalArgument("top " + net, () -> x.pin(0, true, net));
            illegalArgument("bottom " + net, () -> x.pin(19, false, net));
        }
        same("net 9", 0, x.pin(0, true, 9));
        same("net 0", 9, x.pin(0, true, 0));
        same("net 1", 0, x.pin(0, true, 1));
    }

    private static void refusedPinLeavesThePin() {
        ChannelRouter x = channel("11", "..");
        same("lay", 1, x.lay(false));
        outOfBounds("column 20", () -> x.pin(20, true, 0));
        illegalArgument("net 10", () -> x.pin(0, true, 10));
        illegalArgument("net -1", () -> x.pin(0, true, -1));
        counts("laid still", x, 1, 1, 2, 1, 0, 1);
        same("the net still", 1, x.pin(0, true, 0));
    }

    // ---- promise 3

    private static void layNothing() {
        ChannelRouter x = new ChannelRouter();
        same("no pins", 0, x.lay(false));
        same("no pins, cut", 0, x.lay(true));
        same("one straight net", 0, channel(".9", ".9").lay(false));
        ChannelRouter y = channel("123456789", "123456789");
        same("all nets straight", 0, y.lay(false));
        same("all nets straight, cut", 0, y.lay(true));
        same("no segments", 0, y.count(1));
    }

    private static void layFewAndMany() {
        same("the smallest", 1, channel("11", "..").lay(false));
        same("the smallest, cut", 1, channel("11", "..").lay(true));
        same("one net everywhere", 1, filled(9).lay(false));
        same("one net everywhere, cut", 1, filled(9).lay(true));
        same("all nets over one another", 9, channel("123456789123456789", "..................").lay(false));
    }

    // Found by a search for many tracks.
    private static void layVeryMany() {
        ChannelRouter x = channel("85269483716934563827", "59498837662293314685");
        same("tracks", 27, x.lay(true));
        same("tracks are counted", 27, x.count(0));
        for (int i = 0; i < x.count(1); i++) {
            same("net of " + i, x.segment(i, 0), x.level(x.segment(i, 3), x.segment(i, 1)));
        }
        same("the bottom", 5, x.upright(0, 27));
        outOfBounds("under the bottom", () -> x.upright(0, 28));
        outOfBounds("no track 27", () -> x.level(27, 0));
    }

    private static void layAgain() {
        ChannelRouter x = channel("1.1.1", ".....");
        same("cut", 1, x.lay(true));
        segments("cut", x, "1 0 2 0", "1 2 4 0");
        same("whole", 1, x.lay(false));
        segments("whole", x, "1 0 4 0");
        outOfBounds("nothing of before", () -> x.segment(1, 0));
        same("cut again", 1, x.lay(true));
        segments("cut again", x, "1 0 2 0", "1 2 4 0");
    }

    private static void cuttingSavesTracks() {
        // whole, 1 is above 2 and 2 above 3; cut, no piece has more than one above it
        ChannelRouter x = channel("1..12..2", "2.....33");
        x.pin(3, false, 2);
        int whole = x.lay(false);
        same("whole", 3, whole);
        same("cut", 2, x.lay(true));
        segments("cut", x, "1 0 3 0", "2 0 3 1", "2 3 4 1", "2 4 7 0", "3 6 7 1");
    }

    private static void layWithASingleNet() {
        for (int cut = 0; cut < 2; cut++) {
            boolean cuts = cut == 1;
            illegalArgument("net 1 alone", () -> channel("1", ".").lay(cuts));
            illegalArgument("net 9 alone", () -> channel(".", "9").lay(cuts));
            illegalArgument("beside a long one", () -> channel("11.2", "....").lay(cuts));
            illegalArgument("beside a straight one", () -> channel("1.2", "1..").lay(cuts));
            illegalArgument("in a ring otherwise", () -> channel("12.9", "21..").lay(cuts));
            ChannelRouter x = new ChannelRouter();
            x.pin(19, false, 5);
            illegalArgument("in the last column", () -> x.lay(cuts));
            x.pin(19, true, 5);
            same("straight now", 0, x.lay(cuts));
        }
    }

    private static void layWithARing() {
        ChannelRouter x = crossed();
        illegalState("whole", () -> x.lay(false));
        ring("whole", x, 0, 1);
        same("counted", 1, x.count(4));
        same("cut", 3, x.lay(true));
        x.pin(6, false, 0);
        same("without the ring", 2, x.lay(false));
    }

    private static void layWithARingOfPieces() {
        // net 1 has the pieces 0 and 1, net 2 is 2
        ChannelRouter x = channel("1.12", "..21");
        illegalState("cut", () -> x.lay(true));
        ring("piece 1 and net 2", x, 1, 2);
        illegalState("whole", () -> x.lay(false));
        ring("nets 1 and 2", x, 0, 1);
        same("counted", 2, x.count(4));
    }

    // ---- promise 4

    private static void layAnyDoesNotCutWithoutARing() {
        ChannelRouter x = channel("1.1.1", ".....");
        same("whole", 1, x.layAny());
        segments("whole", x, "1 0 4 0");
        ChannelRouter y = channel("1..12..2", "2.....33");
        y.pin(3, false, 2);
        same("whole, though cutting saved a track", 3, y.layAny());
        same("segments", 3, y.count(1));
    }

    private static void layAnyNothing() {
        ChannelRouter x = new ChannelRouter();
        same("no pins", 0, x.layAny());
        counts("no pins", x, 0, 0, 0, 1, 0, 1);
        same("straight", 0, channel("9", "9").layAny());
    }

    private static void layAnyCutsForARing() {
        ChannelRouter x = crossed();
        same("cut", 1003, x.layAny());
        segments("cut", x, "1 0 3 0", "1 3 6 2", "2 0 6 1");
        same("tracks without the 1000", 3, x.count(0));
        same("again", 1003, x.layAny());
        x.pin(6, false, 0);
        same("no ring now", 2, x.layAny());
        segments("no ring now", x, "1 0 3 0", "2 0 6 1");
    }

    // Found by a search for many tracks.
    private static void layAnyVeryMany() {
        ChannelRouter x = channel("82517984684627958493", "27956858443531279549");
        same("cut", 1026, x.layAny());
        same("tracks", 26, x.count(0));
    }

    private static void layAnyWithASingleNet() {
        illegalArgument("alone", () -> channel("1", ".").layAny());
        illegalArgument("the last net", () -> channel("11", ".9").layAny());
        ChannelRouter x = channel("12.9", "21..");
        illegalArgument("before a ring", () -> x.layAny());
        same("no ring is told", -1, x.ring(0));
        counts("nothing is counted", x, 0, 0, 0, 0, 0, 0);
    }

    private static void layAnyWithARing() {
        ChannelRouter x = channel("1.12", "..21");
        illegalState("cut", () -> x.layAny());
        ring("the ring with cutting", x, 1, 2);
        nothingIsLaid("refused", x);
        same("counted once", 1, x.count(4));
    }

    private static void layAnyTellsNoRingThatItCuts() {
        ChannelRouter x = crossed();
        same("cut", 1003, x.layAny());
        same("none is told", -1, x.ring(0));
        same("none is counted", 0, x.count(4));
        ChannelRouter y = channel("132....", "321....");
        illegalState("ring of three", () -> y.layAny());
        for (int column = 0; column < 3; column++) {
            y.pin(column, true, 0);
            y.pin(column, false, 0);
        }
        y.pin(0, true, 1);
        y.pin(0, false, 2);
        y.pin(3, true, 1);
        y.pin(6, true, 2);
        y.pin(6, false, 1);
        same("cut later", 1003, y.layAny());
        ring("still the one from before", y, 0, 2, 1);
    }

    // ---- promise 5

    private static void noRingAtFirst() {
        ChannelRouter x = crossed();
        same("before any laying", -1, x.ring(0));
        x.lay(true);
        same("after a laying", -1, x.ring(0));
        ChannelRouter y = channel("1", ".");
        illegalArgument("single", () -> y.lay(false));
        same("after another refusal", -1, y.ring(0));
    }

    private static void ringBeyondItsEnds() {
        ChannelRouter x = locked();
        illegalState("ring", () -> x.lay(false));
        same("the first", 0, x.ring(0));
        same("the last", 1, x.ring(1));
        same("behind the last", -1, x.ring(2));
        same("before the first", -1, x.ring(-1));
        same("far behind", -1, x.ring(1000));
        same("greatest", -1, x.ring(GREATEST));
        same("least", -1, x.ring(LEAST));
    }

    private static void ringIsTheLatest() {
        ChannelRouter x = channel("1.12", "..21");
        illegalState("lay", () -> x.lay(false));
        ring("lay", x, 0, 1);
        illegalState("layAny", () -> x.layAny());
        ring("layAny", x, 1, 2);
        illegalState("lay again", () -> x.lay(false));
        ring("lay again", x, 0, 1);
    }

    private static void shorterRingReplacesAll() {
        ChannelRouter x = channel("132", "321");
        illegalState("three", () -> x.lay(false));
        ring("three", x, 0, 2, 1);
        // 1 above 2 and 2 above 1 instead
        x.pin(0, false, 2);
        x.pin(1, true, 0);
        x.pin(1, false, 0);
        illegalState("two", () -> x.lay(false));
        ring("two", x, 0, 1);
    }

    private static void ringOutlivesOtherRefusals() {
        ChannelRouter x = locked();
        illegalState("ring", () -> x.lay(false));
        x.pin(0, true, 0);
        illegalArgument("single", () -> x.lay(false));
        illegalArgument("single, any", () -> x.layAny());
        ring("still", x, 0, 1);
        outOfBounds("pin", () -> x.pin(20, true, 1));
        ring("after a refused pin", x, 0, 1);
    }

    private static void ringOutlivesLayings() {
        ChannelRouter x = crossed();
        illegalState("ring", () -> x.lay(false));
        x.lay(true);
        ring("after lay", x, 0, 1);
        x.layAny();
        ring("after layAny", x, 0, 1);
        x.pin(6, false, 0);
        x.lay(false);
        ring("after a laying without a ring", x, 0, 1);
    }

    private static void ringKeepsItsNumbers() {
        // nets 2 and 3 are the segments 1 and 2 as long as net 1 is there
        ChannelRouter x = channel("1123", "..32");
        illegalState("with net 1", () -> x.lay(false));
        ring("with net 1", x, 1, 2);
        x.pin(0, true, 0);
        x.pin(1, true, 0);
        ring("without net 1, the numbers of then", x, 1, 2);
        for (int column = 2; column < 4; column++) {
            x.pin(column, true, 0);
            x.pin(column, false, 0);
        }
        ring("without any segment", x, 1, 2);
    }

    // ---- promise 6

    private static void segmentWithoutSuchANumber() {
        ChannelRouter x = crossed();
        x.layAny();
        same("the first", "1 0 3 0", segment(x, 0));
        same("the last", "2 0 6 1", segment(x, 2));
        int[] wrongNumbers = {-1, 3, 37, 38, 64, LEAST, GREATEST};
        for (int i : wrongNumbers) {
            for (int what = 0; what < 4; what++) {
                int k = what;
                outOfBounds("segment " + i + " " + k, () -> x.segment(i, k));
            }
        }
    }

    private static void segmentWithoutSuchAWhat() {
        ChannelRouter x = crossed();
        x.layAny();
        int[] wrongWhats = {-1, 4, LEAST, GREATEST};
        for (int what : wrongWhats) {
            outOfBounds("first, " + what, () -> x.segment(0, what));
            outOfBounds("last, " + what, () -> x.segment(2, what));
            outOfBounds("no segment, " + what, () -> x.segment(3, what));
        }
    }

    private static void segmentWithNothingLaid() {
        ChannelRouter x = crossed();
        outOfBounds("not yet laid", () -> x.segment(0, 0));
        illegalState("refused", () -> x.lay(false));
        outOfBounds("refused", () -> x.segment(0, 0));
        same("pairs are not laid", 2, x.pairs(true));
        outOfBounds("after pairs", () -> x.segment(0, 0));
        x.layAny();
        x.pin(0, true, 1);
        outOfBounds("after a pin", () -> x.segment(0, 0));
        ChannelRouter y = channel("1", "1");
        y.lay(false);
        outOfBounds("laid without segments", () -> y.segment(0, 0));
    }

    private static void segmentAsItWasLaid() {
        ChannelRouter x = crossed();
        x.lay(true);
        illegalState("refused", () -> x.lay(false));
        segments("after a refused laying", x, "1 0 3 0", "1 3 6 2", "2 0 6 1");
        same("pairs", 2, x.pairs(false));
        segments("after pairs", x, "1 0 3 0", "1 3 6 2", "2 0 6 1");
        ChannelRouter y = new ChannelRouter();
        y.pin(0, true, 9);
        y.pin(19, false, 9);
        y.lay(false);
        same("net", 9, y.segment(0, 0));
        same("left", 0, y.segment(0, 1));
        same("right", 19, y.segment(0, 2));
        same("track", 0, y.segment(0, 3));
    }

    // ---- promise 7

    private static void levelOfNone() {
        ChannelRouter x = channel("..11", "....");
        x.lay(false);
        level("before, on and behind", x, 0, 0, 0, 1, 1, 0);
        same("the last column", 0, x.level(0, 19));
    }

    private static void levelWithoutSuchATrack() {
        ChannelRouter x = crossed();
        outOfBounds("not yet laid", () -> x.level(0, 0));
        x.layAny();
        same("the first", 1, x.level(0, 0));
        same("the last", 1, x.level(2, 6));
        int[] wrongTracks = {-1, 3, LEAST, GREATEST};
        for (int track : wrongTracks) {
            outOfBounds("track " + track, () -> x.level(track, 0));
        }
        x.pin(0, true, 1);
        outOfBounds("after a pin", () -> x.level(0, 0));
        ChannelRouter y = channel("1", "1");
        y.lay(false);
        outOfBounds("laid without tracks", () -> y.level(0, 0));
    }

    private static void levelWithoutSuchAColumn() {
        ChannelRouter x = filled(1);
        x.lay(false);
        same("column 0", 1, x.level(0, 0));
        same("column 19", 1, x.level(0, 19));
        int[] wrongColumns = {-1, 20, LEAST, GREATEST};
        for (int column : wrongColumns) {
            outOfBounds("column " + column, () -> x.level(0, column));
            outOfBounds("no track either, " + column, () -> x.level(1, column));
        }
    }

    // ---- promise 8

    private static void uprightAtOuterRows() {
        ChannelRouter x = channel("1.1.", ".2.2");
        same("lay", 2, x.lay(false));
        upright("the top alone", x, 0, 1, 1, 0, 0);
        upright("the bottom alone", x, 1, 0, 0, 2, 2);
    }

    private static void uprightOfNone() {
        ChannelRouter x = crossed();
        x.layAny();
        upright("no pins, passed by both nets", x, 1, 0, 0, 0, 0, 0);
        upright("no pins, passed by none", x, 19, 0, 0, 0, 0, 0);
        upright("none at the bottom", x, 3, 1, 1, 1, 1, 0);
    }

    private static void uprightWithoutSuchAColumn() {
        ChannelRouter x = filled(1);
        x.lay(false);
        same("column 0", 1, x.upright(0, 0));
        same("column 19", 1, x.upright(19, 0));
        int[] wrongColumns = {-1, 20, LEAST, GREATEST};
        for (int column : wrongColumns) {
            outOfBounds("column " + column, () -> x.upright(column, 0));
            outOfBounds("no row either, " + column, () -> x.upright(column, 3));
        }
    }

    private static void uprightWithoutSuchARow() {
        ChannelRouter x = crossed();
        x.layAny();
        same("the top", 1, x.upright(0, -1));
        same("the bottom", 2, x.upright(0, 3));
        int[] wrongRows = {-2, 4, LEAST, GREATEST};
        for (int row : wrongRows) {
            outOfBounds("row " + row, () -> x.upright(0, row));
            outOfBounds("row " + row + ", no pins", () -> x.upright(19, row));
        }
    }

    private static void uprightWithNothingLaid() {
        ChannelRouter x = channel("55", "5.");
        outOfBounds("not yet laid, top", () -> x.upright(0, -1));
        outOfBounds("not yet laid, bottom", () -> x.upright(0, 0));
        same("lay", 1, x.lay(false));
        same("laid", 5, x.upright(0, -1));
        x.pin(0, true, 5);
        outOfBounds("after a pin, top", () -> x.upright(0, -1));
        outOfBounds("after a pin, bottom", () -> x.upright(0, 0));
        ChannelRouter y = locked();
        illegalState("refused", () -> y.layAny());
        outOfBounds("refused", () -> y.upright(0, -1));
    }

    private static void uprightWithoutTracks() {
        ChannelRouter x = channel("4", "4");
        same("lay", 0, x.lay(false));
        upright("straight", x, 0, 4, 4);
        upright("none", x, 19, 0, 0);
        outOfBounds("over the top", () -> x.upright(0, -2));
        outOfBounds("under the bottom", () -> x.upright(0, 1));
        ChannelRouter y = new ChannelRouter();
        same("lay without pins", 0, y.layAny());
        upright("without pins", y, 0, 0, 0);
    }

    // ---- promise 9

    private static void viaWithoutSuchATrack() {
        ChannelRouter x = crossed();
        outOfBounds("not yet laid", () -> x.via(0, 0));
        x.layAny();
        same("the first", true, x.via(0, 0));
        same("the last", true, x.via(2, 6));
        int[] wrongTracks = {-1, 3, LEAST, GREATEST};
        for (int track : wrongTracks) {
            outOfBounds("track " + track, () -> x.via(track, 0));
        }
        x.pin(0, true, 1);
        outOfBounds("after a pin", () -> x.via(0, 0));
        ChannelRouter y = channel("1", "1");
        y.lay(false);
        outOfBounds("the top row is no track", () -> y.via(-1, 0));
        outOfBounds("the bottom row is no track", () -> y.via(0, 0));
    }

    private static void viaWithoutSuchAColumn() {
        ChannelRouter x = filled(1);
        x.lay(false);
        same("column 0", true, x.via(0, 0));
        same("column 19", true, x.via(0, 19));
        int[] wrongColumns = {-1, 20, LEAST, GREATEST};
        for (int column : wrongColumns) {
            outOfBounds("column " + column, () -> x.via(0, column));
            outOfBounds("no track either, " + column, () -> x.via(1, column));
        }
    }

    // ---- promise 10

    private static void leastAndGreatestDensity() {
        same("no pins", 0, new ChannelRouter().density());
        same("no long net", 0, channel("12", "13").density());
        same("one net everywhere", 1, filled(9).density());
        same("all nets", 9, channel("123456789123456789", "..................").density());
        same("all nets at the ends", 9, channel("1234512345", ".6789.6789").density());
    }

    private static void densityOfThePinsNow() {
        ChannelRouter x = channel("12.12", ".....");
        same("not laid", 2, x.density());
        x.lay(false);
        same("laid", 2, x.density());
        x.pin(4, true, 0);
        same("2 is single now", 1, x.density());
        x.pin(3, true, 0);
        same("1 is single, too", 0, x.density());
    }

    // ---- promise 11

    private static void noPairs() {
        ChannelRouter x = new ChannelRouter();
        same("no pins", 0, x.pairs(false));
        same("no pins, cut", 0, x.pairs(true));
        same("single nets", 0, channel("1", "2").pairs(false));
        same("a single net over a long one", 0, channel("1.", "22").pairs(false));
        same("one net", 0, filled(3).pairs(true));
    }

    private static void pairsInManyColumns() {
        ChannelRouter x = channel("1.1.1", "2.2.2");
        same("three columns, one pair", 1, x.pairs(false));
        same("column 2 makes all four", 4, x.pairs(true));
    }

    private static void pairsBothWays() {
        ChannelRouter x = locked();
        same("whole", 2, x.pairs(false));
        same("cut", 2, x.pairs(true));
    }

    private static void pairsOfAllPieces() {
        ChannelRouter x = channel("11111111111111111111", "22222222222222222222");
        same("whole", 1, x.pairs(false));
        // 19 pieces over one another, and across each of 18 inner columns two more
        same("cut", 19 + 18 * 2, x.pairs(true));
    }

    private static void pairsAsTheyWouldBeNow() {
        ChannelRouter x = channel("1.1.1", "..22.");
        same("not laid", 1, x.pairs(false));
        same("laid cut", 2, x.lay(true));
        same("laid cut, asked whole", 1, x.pairs(false));
        same("laid cut, asked cut", 2, x.pairs(true));
        same("laid whole", 2, x.lay(false));
        same("laid whole, asked cut", 2, x.pairs(true));
        x.pin(2, false, 0);
        same("2 is single now", 0, x.pairs(false));
        same("2 is single now, cut", 0, x.pairs(true));
    }

    // ---- promise 12

    private static void netWithNoneAndAllPins() {
        nets("none", new ChannelRouter(), 9, -1, -1, 0, 0);
        nets("all", filled(9), 9, 0, 19, 40, 3);
        nets("no other", filled(9), 1, -1, -1, 0, 0);
    }

    private static void netGrowsAndShrinks() {
        ChannelRouter x = new ChannelRouter();
        nets("no pins", x, 5, -1, -1, 0, 0);
        x.pin(7, true, 5);
        nets("one", x, 5, -1, -1, 1, 1);
        x.pin(7, false, 5);
        nets("two in one column", x, 5, -1, -1, 2, 2);
        x.pin(8, true, 5);
        nets("three", x, 5, 7, 8, 3, 3);
        x.pin(7, true, 0);
        nets("two in two columns", x, 5, 7, 8, 2, 3);
        x.pin(7, false, 6);
        nets("one is another's now", x, 5, -1, -1, 1, 1);
        x.pin(8, true, 0);
        nets("none again", x, 5, -1, -1, 0, 0);
    }

    private static void netThatIsNotLong() {
        ChannelRouter x = channel("1.2.33", "..2...");
        same("single, left", -1, x.net(1, 0));
        same("single, right", -1, x.net(1, 1));
        same("straight, left", -1, x.net(2, 0));
        same("straight, right", -1, x.net(2, 1));
        same("without pins, left", -1, x.net(4, 0));
        same("without pins, right", -1, x.net(4, 1));
        same("long, left", 4, x.net(3, 0));
        same("long, right", 5, x.net(3, 1));
    }

    private static void netInOuterColumns() {
        ChannelRouter x = new ChannelRouter();
        x.pin(0, false, 1);
        x.pin(1, false, 1);
        x.pin(18, true, 9);
        x.pin(19, true, 9);
        nets("at the left", x, 1, 0, 1, 2, 3);
        nets("at the right", x, 9, 18, 19, 2, 3);
    }

    private static void netWithoutSuchANumber() {
        ChannelRouter x = filled(9);
        int[] wrongNets = {-1, 0, 10, LEAST, GREATEST};
        for (int net : wrongNets) {
            for (int what = 0; what < 4; what++) {
                int k = what;
                outOfBounds("net " + net + " " + k, () -> x.net(net, k));
            }
        }
        same("net 9", 40, x.net(9, 2));
        same("net 1", 0, x.net(1, 2));
    }

    private static void netWithoutSuchAWhat() {
        ChannelRouter x = filled(9);
        int[] wrongWhats = {-1, 4, LEAST, GREATEST};
        for (int what : wrongWhats) {
            outOfBounds("long, " + what, () -> x.net(9, what));
            outOfBounds("without pins, " + what, () -> x.net(1, what));
            outOfBounds("no net, " + what, () -> x.net(0, what));
        }
    }

    // ---- promise 13

    private static void countsOfANewObject() {
        counts("new", new ChannelRouter(), 0, 0, 0, 0, 0, 0);
        counts("pins alone", filled(1), 0, 0, 0, 0, 0, 0);
    }

    private static void countsOfAFullChannel() {
        ChannelRouter x = channel("11111111111111111111", "22222222222222222222");
        x.lay(true);
        counts("cut", x, 2, 38, 40, 1, 0, 1);
        x.lay(false);
        counts("whole", x, 2, 2, 40, 2, 0, 1);
    }

    private static void countsSinceTheBeginning() {
        ChannelRouter x = crossed();
        x.lay(true);
        illegalState("lay", () -> x.lay(false));
        counts("one and one", x, 3, 3, 6, 1, 1, 1);
        x.pin(0, true, 1);
        counts("a pin takes nothing of these away", x, 0, 0, 0, 1, 1, 0);
        x.layAny();
        illegalState("lay again", () -> x.lay(false));
        counts("two and two", x, 3, 3, 6, 2, 2, 1);
        x.lay(true);
        counts("the same again counts", x, 3, 3, 6, 3, 2, 1);
    }

    private static void countsOfSingleRefusals() {
        ChannelRouter x = channel("1", ".");
        illegalArgument("lay", () -> x.lay(false));
        illegalArgument("lay cut", () -> x.lay(true));
        illegalArgument("layAny", () -> x.layAny());
        counts("none", x, 0, 0, 0, 0, 0, 0);
    }

    private static void countsOfLayAny() {
        ChannelRouter x = crossed();
        x.layAny();
        counts("laid once, not refused", x, 3, 3, 6, 1, 0, 1);
        ChannelRouter y = locked();
        illegalState("refused", () -> y.layAny());
        counts("refused once", y, 0, 0, 0, 0, 1, 0);
    }

    private static void countOfLaidNow() {
        ChannelRouter x = crossed();
        same("not yet", 0, x.count(5));
        illegalState("refused", () -> x.lay(false));
        same("refused", 0, x.count(5));
        x.lay(true);
        same("laid", 1, x.count(5));
        x.lay(true);
        same("laid twice is still 1", 1, x.count(5));
        illegalState("refused, laid before", () -> x.lay(false));
        same("refused, laid before", 1, x.count(5));
        x.pin(19, true, 0);
        same("gone", 0, x.count(5));
    }

    // Rows -1 and 0 can be looked at then, so something is laid.
    private static void countsOfAnEmptyLaying() {
        ChannelRouter x = new ChannelRouter();
        x.lay(false);
        counts("no pins", x, 0, 0, 0, 1, 0, 1);
        x.layAny();
        counts("no pins, any", x, 0, 0, 0, 2, 0, 1);
        ChannelRouter y = channel("4", "4");
        y.lay(true);
        counts("straight", y, 0, 0, 0, 1, 0, 1);
    }

    private static void countWithoutSuchAWhat() {
        ChannelRouter x = new ChannelRouter();
        int[] wrongWhats = {-1, 6, LEAST, GREATEST};
        for (int what : wrongWhats) {
            outOfBounds("new, " + what, () -> x.count(what));
        }
        x.lay(false);
        outOfBounds("laid, -1", () -> x.count(-1));
        outOfBounds("laid, 6", () -> x.count(6));
    }

    // ---- promise 14

    private static void usedWithoutTracks() {
        ChannelRouter x = channel("11", "..");
        same("not yet laid", 0f, x.used());
        x.lay(false);
        x.pin(0, true, 1);
        same("after a pin", 0f, x.used());
        ChannelRouter y = channel("1", "1");
        y.lay(false);
        same("laid without tracks", 0f, y.used());
    }

    private static void usedWholly() {
        ChannelRouter x = filled(1);
        x.lay(false);
        same("one track", 1f, x.used());
        ChannelRouter y = channel("11111111111111111111", "22222222222222222222");
        y.lay(true);
        same("two tracks of pieces", 1f, y.used());
    }

    private static void usedLeast() {
        ChannelRouter x = channel("11", "..");
        x.lay(false);
        same("2 of 20", 0.1f, x.used());
        ChannelRouter y = channel("12.", ".12");
        y.lay(false);
        same("4 of 40", 0.1f, y.used());
    }

    private static void usedWherePiecesMeet() {
        ChannelRouter x = channel("1.1.1", ".....");
        x.lay(true);
        same("5 of 20", 0.25f, x.used());
        // on different tracks the meeting point is there twice
        ChannelRouter y = crossed();
        y.layAny();
        same("4 and 4 and 7 of 60", 0.25f, y.used());
    }

    private static void usedAsAFloat() {
        ChannelRouter x = channel("123", "23.");
        x.pin(3, true, 1);
        x.pin(4, true, 3);
        same("lay", 3, x.lay(false));
        same("4 and 2 and 4 of 60", 0.16666667f, x.used());
        x.pin(4, true, 0);
        x.pin(3, false, 3);
        same("lay again", 3, x.lay(false));
        same("4 and 2 and 3 of 60", 0.15f, x.used());
    }
}
