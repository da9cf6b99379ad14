/** One test for each sentence of the document's face and Terms that names a boundary case. */
public final class TermsBoundaryTest extends Checks {
    // 1 above 2 in column 0 and below it in column 6: a ring, unless net 1 is cut in column 3.
    private static final String CROSSED_TOP = "1..1..2";
    private static final String CROSSED_BOTTOM = "2.....1";

    public static void main(String[] args) {
        face();
        columnsAndNets();
        segmentsAndAbove();
        rings();
        laying();
        densityAndWiring();
        exceptions();
        end();
    }

    private static void face() {
        test("public static final int NONE = -1", TermsBoundaryTest::noneIsMinusOne);
        test("used for at most 512 calls: the 512th still answers", TermsBoundaryTest::lastCallStillAnswers);
    }

    private static void columnsAndNets() {
        test("COLUMNS are 0 .. 19", TermsBoundaryTest::firstAndLastColumn);
        test("a pin at the TOP and one at the BOTTOM", TermsBoundaryTest::topAndBottomAreApart);
        test("of a NET 1 .. 9", TermsBoundaryTest::firstAndLastNet);
        test("or of none (0, at first)", TermsBoundaryTest::noneAtFirst);
        test("SINGLE if it has just one", TermsBoundaryTest::singleHasJustOne);
        test("STRAIGHT if it has two in one column", TermsBoundaryTest::straightHasTwoInOneColumn);
        test("else LONG: two pins in neighbouring columns", TermsBoundaryTest::shortestLong);
        test("else LONG: a third pin beside two in one column", TermsBoundaryTest::straightAndOneMore);
        test("LONG: from its first column LEFT to its last one RIGHT", TermsBoundaryTest::longestLong);
    }

    private static void segmentsAndAbove() {
        test("SEGMENTS come of the long nets", TermsBoundaryTest::onlyLongNetsHaveSegments);
        test("lower ones first; numbers 0, 1, .. in this order", TermsBoundaryTest::lowerNetsFirst);
        test("without cutting one for each", TermsBoundaryTest::oneForEachWithoutCutting);
        test("with cutting, from c0 to c1: two columns", TermsBoundaryTest::twoColumnsAreNotCut);
        test("with cutting, c0 < c1: two pins in one column", TermsBoundaryTest::twoPinsInAColumnCutOnce);
        test("with cutting, and so on: the most segments", TermsBoundaryTest::mostSegments);
        test("TOUCHES its two ends", TermsBoundaryTest::touchesItsEnds);
        test("without cutting, each column in which its net has a pin", TermsBoundaryTest::touchesInnerPins);
        test("it does not touch a column that it passes", TermsBoundaryTest::doesNotTouchWhatItPasses);
        test("ABOVE: different nets, not one net twice", TermsBoundaryTest::oneNetIsNotAboveItself);
        test("ABOVE: different nets, not a net and none", TermsBoundaryTest::noneIsNeitherAboveNorBelow);
        test("ABOVE: x is of the top's net, y of the bottom's", TermsBoundaryTest::topIsAboveBottom);
        test("ABOVE: both touch that column", TermsBoundaryTest::onlyPiecesThatTouch);
    }

    private static void rings() {
        test("A RING: not in a chain", TermsBoundaryTest::chainIsNoRing);
        test("A RING: not if two ways lead to one", TermsBoundaryTest::twoWaysDownAreNoRing);
        test("A RING: the shortest, of two", TermsBoundaryTest::ringOfTwo);
        test("A RING: and so on, all nine nets", TermsBoundaryTest::ringOfAllNets);
        test("A RING: and so on, through every column", TermsBoundaryTest::ringThroughEveryColumn);
        test("the lowest in any ring, not one above a ring", TermsBoundaryTest::firstIsNotAboveTheRing);
        test("the lowest in any ring, not one below a ring", TermsBoundaryTest::firstIsNotBelowTheRing);
        test("the lowest in any ring, not one between two", TermsBoundaryTest::firstIsNotBetweenRings);
        test("the lowest in any ring, of two rings", TermsBoundaryTest::firstOfTheLowerRing);
        test("in the fewest steps, the first step", TermsBoundaryTest::fewestStepsAtFirst);
        test("in the fewest steps, a later step", TermsBoundaryTest::fewestStepsLater);
        test("the lowest of those, the first step", TermsBoundaryTest::lowestOfEqualAtFirst);
        test("the lowest of those, a later step", TermsBoundaryTest::lowestOfEqualLater);
        test("back to the first, by one of two that come there", TermsBoundaryTest::ringBesideOthersAboveTheFirst);
        test("back to the first: nothing after it is told", TermsBoundaryTest::ringEndsAtTheFirst);
    }

    private static void laying() {
        test("tracks 0 (the uppermost), 1, ..", TermsBoundaryTest::trackZeroIsUppermost);
        test("all that have to be above are laid on tracks before", TermsBoundaryTest::uppersOnTracksBefore);
        test("gone over by their left ends", TermsBoundaryTest::leftmostFirst);
        test("of equal left ends: one is above the other", TermsBoundaryTest::equalLeftEnds);
        test("laid there if the track has none yet", TermsBoundaryTest::firstOnATrack);
        test("its left end is greater than the right end", TermsBoundaryTest::rightBehindTheLatest);
        test("the right end of the one that was laid there latest", TermsBoundaryTest::behindTheLatestNotTheFirst);
        test("equal to it: other nets", TermsBoundaryTest::meetingNetsDoNotShareATrack);
        test("equal to it, if both are of the same net", TermsBoundaryTest::meetingPiecesShareATrack);
        test("as long as there are segments: none", TermsBoundaryTest::noSegmentsNoTracks);
        test("as long as there are segments: no empty track", TermsBoundaryTest::noEmptyTrack);
        test("as long as there are segments: a long chain", TermsBoundaryTest::chainThroughAllColumns);
    }

    private static void densityAndWiring() {
        test("DENSITY: left <= column <= right, ends count", TermsBoundaryTest::densityCountsEnds);
        test("DENSITY: not beyond the ends", TermsBoundaryTest::densityStopsAtEnds);
        test("DENSITY: long nets alone", TermsBoundaryTest::densityOfLongNetsAlone);
        test("DENSITY: over all columns, the first and last", TermsBoundaryTest::densityInOuterColumns);
        test("from a segment's left to its right column", TermsBoundaryTest::levelFromLeftToRight);
        test("rows -1 (the top) .. tracks (the bottom)", TermsBoundaryTest::rowsOfAColumn);
        test("of one net, it has all rows", TermsBoundaryTest::oneNetHasAllRows);
        test("the top's net to the greatest track", TermsBoundaryTest::topReachesItsGreatestTrack);
        test("the bottom's net from the least track", TermsBoundaryTest::bottomReachesItsLeastTrack);
        test("a segment of it that touches the column", TermsBoundaryTest::otherPiecesDoNotCount);
        test("A VIA: both layers have the same net", TermsBoundaryTest::noViaWhereNetsCross);
        test("A VIA: on each track on which one touches", TermsBoundaryTest::viasOfTwoPieces);
    }

    private static void exceptions() {
        test("IndexOutOfBounds, then IllegalArgument", TermsBoundaryTest::columnIsRefusedBeforeNet);
        test("IllegalArgument, then IllegalState", TermsBoundaryTest::singleIsRefusedBeforeRing);
        test("a refused pin() changes nothing", TermsBoundaryTest::refusedPinChangesNothing);
        test("a refused look changes nothing", TermsBoundaryTest::refusedLooksChangeNothing);
        test("a refused lay(): what was laid before stays", TermsBoundaryTest::refusedLayKeepsWhatWasLaid);
        test("a lay() refused for a single net tells nothing", TermsBoundaryTest::refusedForSingleTellsNothing);
        test("a lay() refused on a new channel lays nothing", TermsBoundaryTest::refusedLayLaysNothing);
    }

    // ---- the face

    private static void noneIsMinusOne() {
        same("NONE", -1, ChannelRouter.NONE);
        same("ring", ChannelRouter.NONE, new ChannelRouter().ring(0));
    }

    private static void lastCallStillAnswers() {
        same("laid", 253, after511Calls().count(3));
        same("refused", 253, after511Calls().count(4));
        same("laying", 1003, after511Calls().layAny());
        same("segment", 2, after511Calls().segment(1, 3));
        same("pin", 2, after511Calls().pin(6, true, 9));
    }

    // 5 pins, 253 times lay() that lays and one that is refused.
    private static ChannelRouter after511Calls() {
        ChannelRouter x = new ChannelRouter();
        x.pin(0, true, 1);
        x.pin(0, false, 2);
        x.pin(3, true, 1);
        x.pin(6, true, 2);
        x.pin(6, false, 1);
        for (int k = 0; k < 253; k++) {
            x.lay(true);
            try {
                x.lay(false);
            } catch (IllegalStateException e) {
                continue;
            }
        }
        return x;
    }

    // ---- columns and nets

    private static void firstAndLastColumn() {
        ChannelRouter x = new ChannelRouter();
        x.pin(0, true, 1);
        x.pin(19, true, 1);
        same("lay", 1, x.lay(false));
        segments("from end to end", x, "1 0 19 0");
        same("level 0", 1, x.level(0, 0));
        same("level 19", 1, x.level(0, 19));
        same("upright 0", 1, x.upright(0, -1));
        same("upright 19", 1, x.upright(19, -1));
        same("via 0", true, x.via(0, 0));
        same("via 19", true, x.via(0, 19));
        outOfBounds("no column 20", () -> x.pin(20, true, 1));
        outOfBounds("no column -1", () -> x.pin(-1, true, 1));
    }

    private static void topAndBottomAreApart() {
        ChannelRouter x = new ChannelRouter();
        x.pin(4, true, 1);
        same("the bottom is none still", 0, x.pin(4, false, 2));
        same("the top is as it was", 1, x.pin(4, true, 1));
        same("the bottom is as it was", 2, x.pin(4, false, 2));
        same("the column before", 0, x.pin(3, false, 0));
        same("the column behind", 0, x.pin(5, true, 0));
    }

    private static void firstAndLastNet() {
        ChannelRouter x = channel("1.9", "19.");
        nets("net 1", x, 1, -1, -1, 2, 2);
        nets("net 9", x, 9, 1, 2, 2, 3);
        same("lay", 1, x.lay(false));
        segments("net 9", x, "9 1 2 0");
        illegalArgument("no net 10", () -> x.pin(0, true, 10));
        outOfBounds("no net 10 to look at", () -> x.net(10, 3));
        outOfBounds("net 0 is none", () -> x.net(0, 3));
    }

    private static void noneAtFirst() {
        ChannelRouter x = new ChannelRouter();
        for (int column = 0; column < 20; column++) {
            same("top " + column, 0, x.pin(column, true, 0));
            same("bottom " + column, 0, x.pin(column, false, 0));
        }
    }

    private static void singleHasJustOne() {
        nets("at the top", channel("1", "."), 1, -1, -1, 1, 1);
        nets("at the bottom", channel(".", "1"), 1, -1, -1, 1, 1);
        nets("two are not single", channel("11", ".."), 1, 0, 1, 2, 3);
        nets("none is not single", channel("1", "."), 2, -1, -1, 0, 0);
        illegalArgument("single", () -> channel(".", "9").lay(false));
    }

    private static void straightHasTwoInOneColumn() {
        nets("straight", channel(".3", ".3"), 3, -1, -1, 2, 2);
        nets("across two columns", channel("3.", ".3"), 3, 0, 1, 2, 3);
        same("not single", 0, channel(".3", ".3").lay(false));
    }

    private static void shortestLong() {
        nets("top", channel(".44", "..."), 4, 1, 2, 2, 3);
        nets("bottom", channel("...", ".44"), 4, 1, 2, 2, 3);
        ChannelRouter x = channel(".4.", "..4");
        nets("top and bottom", x, 4, 1, 2, 2, 3);
        same("lay", 1, x.lay(true));
        segments("shortest", x, "4 1 2 0");
    }

    private static void straightAndOneMore() {
        nets("one more behind", channel("5..5", "5..."), 5, 0, 3, 3, 3);
        nets("one more before", channel("...5", "5..5"), 5, 0, 3, 3, 3);
        nets("two and two", channel("5..5", "5..5"), 5, 0, 3, 4, 3);
    }

    private static void longestLong() {
        ChannelRouter x = new ChannelRouter();
        for (int column = 0; column < 20; column++) {
            x.pin(column, true, 7);
            x.pin(column, false, 7);
        }
        nets("all pins", x, 7, 0, 19, 40, 3);
        x.pin(0, true, 0);
        nets("the bottom holds the left end", x, 7, 0, 19, 39, 3);
        x.pin(0, false, 0);
        x.pin(19, false, 0);
        nets("the top holds the right end", x, 7, 1, 19, 37, 3);
        x.pin(19, true, 0);
        nets("both ends are gone", x, 7, 1, 18, 36, 3);
    }

    // ---- segments, and what has to be above what

    private static void onlyLongNetsHaveSegments() {
        ChannelRouter x = channel("2.13.3", "2.1..1");
        same("whole", 2, x.lay(false));
        segments("whole, 2 is straight, 4 has no pins", x, "1 2 5 1", "3 3 5 0");
        same("cut", 2, x.lay(true));
        segments("cut, 2 is straight, 4 has no pins", x, "1 2 5 1", "3 3 5 0");
        same("single nets have none", 0, channel("1", "2").pairs(false));
        same("nor have they pairs with long ones", 0, channel("11", "2.").pairs(true));
    }

    private static void lowerNetsFirst() {
        ChannelRouter x = channel("99.55.11", "........");
        same("lay", 1, x.lay(false));
        segments("not by columns", x, "1 6 7 0", "5 3 4 0", "9 0 1 0");
        ChannelRouter y = channel("9.99.1.11", ".........");
        same("lay cut", 1, y.lay(true));
        segments("by nets, then by columns", y, "1 5 7 0", "1 7 8 0", "9 0 2 0", "9 2 3 0");
    }

    private static void oneForEachWithoutCutting() {
        ChannelRouter x = channel("1.1.1", "1.1.1");
        same("lay", 1, x.lay(false));
        segments("inner pins do not cut", x, "1 0 4 0");
        ChannelRouter y = channel("123456789123456789", "..................");
        same("nine", 9, y.lay(false));
        same("nine segments", 9, y.count(1));
        same("the last one", "9 8 17 8", segment(y, 8));
        outOfBounds("no tenth", () -> y.segment(9, 0));
    }

    private static void twoColumnsAreNotCut() {
        ChannelRouter x = channel("1..1", "....");
        same("lay", 1, x.lay(true));
        segments("one piece", x, "1 0 3 0");
    }

    private static void twoPinsInAColumnCutOnce() {
        ChannelRouter x = channel("1.1.1", "1.1.1");
        same("lay", 1, x.lay(true));
        segments("none from a column to itself", x, "1 0 2 0", "1 2 4 0");
    }

    private static void mostSegments() {
        ChannelRouter x = channel("11111111111111111111", "22222222222222222222");
        same("lay", 2, x.lay(true));
        same("segments", 38, x.count(1));
        same("the first of net 1", "1 0 1 0", segment(x, 0));
        same("the last of net 1", "1 18 19 0", segment(x, 18));
        same("the first of net 2", "2 0 1 1", segment(x, 19));
        same("the last of net 2", "2 18 19 1", segment(x, 37));
        outOfBounds("no more", () -> x.segment(38, 0));
        same("vias", 40, x.count(2));
    }

    private static void touchesItsEnds() {
        for (int cut = 0; cut < 2; cut++) {
            ChannelRouter x = channel(".1....", "....1.");
            same("lay", 1, x.lay(cut == 1));
            same("left end", true, x.via(0, 1));
            same("right end", true, x.via(0, 4));
            same("vias", 2, x.count(2));
        }
        same("1 above 2 at the left end of both", 1, channel("1.1", "22.").pairs(false));
        same("1 above 2 at the right end of both", 1, channel("1.1", ".22").pairs(false));
    }

    private static void touchesInnerPins() {
        ChannelRouter x = channel("1.1...1", "....1..");
        same("lay", 1, x.lay(false));
        same("inner pin at the top", true, x.via(0, 2));
        same("inner pin at the bottom", true, x.via(0, 4));
        same("vias", 4, x.count(2));
        same("1 above 2 at an inner pin of 1", 1, channel("1.1.1", "..22.").pairs(false));
        same("2 above 1 at an inner pin of 1", 1, channel("..22.", "1.1.1").pairs(false));
    }

    private static void doesNotTouchWhatItPasses() {
        // 2 is above 3 in column 2, where 1 passes
        ChannelRouter x = channel("1.2...1", "..3.23.");
        same("pairs", 1, x.pairs(false));
        same("lay", 3, x.lay(false));
        segments("1 is free", x, "1 0 6 0", "2 2 4 1", "3 2 5 2");
        same("1 is there", 1, x.level(0, 2));
        same("no via of 1", false, x.via(0, 2));
        same("no via where no pin is", false, x.via(0, 3));
    }

    private static void oneNetIsNotAboveItself() {
        same("whole", 0, channel("11", "11").pairs(false));
        same("cut", 0, channel("111", "111").pairs(true));
        same("no ring", 1, channel("111", "111").lay(true));
        same("two nets beside one another", 0, channel("11.22", "11.22").pairs(false));
    }

    private static void noneIsNeitherAboveNorBelow() {
        same("the bottom is none", 0, channel("1.1", ".2.").pairs(false));
        ChannelRouter x = channel("1.1.", ".2.2");
        same("never in one column", 0, x.pairs(false));
        same("never in one column, cut", 0, x.pairs(true));
        same("the lower one begins further right", 2, x.lay(false));
        segments("free", x, "1 0 2 0", "2 1 3 1");
    }

    private static void topIsAboveBottom() {
        ChannelRouter x = channel("1.1", "2.2");
        x.lay(false);
        segments("1 is at the top", x, "1 0 2 0", "2 0 2 1");
        ChannelRouter y = channel("2.2", "1.1");
        y.lay(false);
        segments("2 is at the top", y, "1 0 2 1", "2 0 2 0");
    }

    private static void onlyPiecesThatTouch() {
        // net 1 is cut in column 3: its first piece is above 2, its second one below
        ChannelRouter x = channel(CROSSED_TOP, CROSSED_BOTTOM);
        same("whole", 2, x.pairs(false));
        same("cut", 2, x.pairs(true));
        same("no ring", 3, x.lay(true));
        segments("one above, one below", x, "1 0 3 0", "1 3 6 2", "2 0 6 1");
        // column 0 is touched by the first piece alone, column 2 by both
        same("first pieces alone", 1, channel("1.1.1", "22...").pairs(true));
        same("both pieces", 2, channel("1.1.1", "..22.").pairs(true));
    }

    // ---- rings

    private static void chainIsNoRing() {
        ChannelRouter x = channel("123.1", "23.3.");
        same("lay", 3, x.lay(false));
        same("none is told", -1, x.ring(0));
        same("layAny", 3, x.layAny());
    }

    private static void twoWaysDownAreNoRing() {
        // 1 above 2 and 3, both above 4
        ChannelRouter x = channel("1123", "2344");
        same("lay", 4, x.lay(false));
        segments("four tracks", x, "1 0 1 0", "2 0 2 1", "3 1 3 2", "4 2 3 3");
    }

    private static void ringOfTwo() {
        ChannelRouter x = channel("12", "21");
        illegalState("whole", () -> x.lay(false));
        ring("whole", x, 0, 1);
        illegalState("cut", () -> x.lay(true));
        ring("cut", x, 0, 1);
        ChannelRouter y = new ChannelRouter();
        y.pin(18, true, 8);
        y.pin(18, false, 9);
        y.pin(19, true, 9);
        y.pin(19, false, 8);
        illegalState("the last columns and nets", () -> y.lay(false));
        ring("the last columns and nets", y, 0, 1);
    }

    private static void ringOfAllNets() {
        ChannelRouter x = channel("123456789", "234567891");
        illegalState("upwards", () -> x.lay(false));
        ring("upwards", x, 0, 1, 2, 3, 4, 5, 6, 7, 8);
        ChannelRouter y = channel("198765432", "987654321");
        illegalState("downwards", () -> y.layAny());
        ring("downwards", y, 0, 8, 7, 6, 5, 4, 3, 2, 1);
    }

    // Through the even columns to the right and back through the odd ones, each step a piece of its own.
    private static void ringThroughEveryColumn() {
        ChannelRouter x = channel("43112233112233112231", "14233112233112233112");
        illegalState("cut", () -> x.lay(true));
        ring("twenty", x, 0, 13, 26, 4, 17, 30, 8, 21, 34, 12, 23, 10, 32, 19, 6, 28, 15, 2, 24, 35);
        illegalState("whole", () -> x.lay(false));
        ring("whole", x, 0, 1);
    }

    private static void firstIsNotAboveTheRing() {
        // 1 is above 2; 2 and 3 are a ring; 3 is above 4
        ChannelRouter x = channel("12331.", "2324.4");
        illegalState("lay", () -> x.lay(false));
        ring("2 and 3", x, 1, 2);
    }

    private static void firstIsNotBelowTheRing() {
        // 2 and 3 are a ring; 3 is above 1
        ChannelRouter x = channel("233.", "3211");
        illegalState("lay", () -> x.lay(false));
        ring("2 and 3", x, 1, 2);
    }

    private static void firstIsNotBetweenRings() {
        // 3 and 4 are a ring, 5 and 6 too; 1 is below 4 and above 5
        ChannelRouter x = channel("344156", "431565");
        illegalState("lay", () -> x.lay(false));
        ring("3 and 4", x, 1, 2);
    }

    private static void firstOfTheLowerRing() {
        ChannelRouter x = channel("5623", "6532");
        illegalState("lay", () -> x.lay(false));
        ring("2 and 3, further right", x, 0, 1);
        // the ring of 1, 4 and 5 is longer than that of 2 and 3, but has the lowest one
        ChannelRouter y = channel("23145", "32451");
        illegalState("lay", () -> y.lay(false));
        ring("the longer ring", y, 0, 3, 4);
    }

    private static void fewestStepsAtFirst() {
        // 1 above 2 above 4 above 1, and 1 above 3 above 1
        ChannelRouter x = channel("12413", "24131");
        illegalState("lay", () -> x.lay(false));
        ring("by way of 3", x, 0, 2);
    }

    private static void fewestStepsLater() {
        // 1 above 2; then 2 above 3 above 4 above 1, and 2 above 5 above 1
        ChannelRouter x = channel("123425", "234151");
        illegalState("lay", () -> x.lay(false));
        ring("by way of 5", x, 0, 1, 4);
    }

    private static void lowestOfEqualAtFirst() {
        // 1 above 3 above 1, and 1 above 2 above 1
        ChannelRouter x = channel("1312", "3121");
        illegalState("lay", () -> x.lay(false));
        ring("by way of 2", x, 0, 1);
    }

    private static void lowestOfEqualLater() {
        // 1 above 2; then 2 above 5 above 1, and 2 above 4 above 1
        ChannelRouter x = channel("12254", "25411");
        illegalState("lay", () -> x.lay(false));
        ring("by way of 4", x, 0, 1, 2);
    }

    private static void ringBesideOthersAboveTheFirst() {
        // 1 above 3 above 2 above 1; 4 and 5 are above 1, too, but below none
        ChannelRouter x = channel("1324545", "32111..");
        illegalState("lay", () -> x.lay(false));
        ring("by way of 3 and 2", x, 0, 2, 1);
    }

    private static void ringEndsAtTheFirst() {
        // 2 could go on to 3, but 1 comes at once
        ChannelRouter x = channel("1232", "2311");
        illegalState("lay", () -> x.lay(false));
        ring("two", x, 0, 1);
    }

    // ---- laying

    private static void trackZeroIsUppermost() {
        ChannelRouter x = channel("1.1", "2.2");
        same("lay", 2, x.lay(false));
        same("next to the top", 1, x.upright(0, 0));
        same("next to the bottom", 2, x.upright(0, 1));
        same("level 0", 1, x.level(0, 1));
        same("level 1", 2, x.level(1, 1));
    }

    private static void uppersOnTracksBefore() {
        // 3 keeps 1 off track 0; 2 would fit behind 3, but has to be below 1
        ChannelRouter x = channel("3..13.1..", "......2.2");
        same("lay", 3, x.lay(false));
        segments("2 waits for 1", x, "1 3 6 1", "2 6 8 2", "3 0 4 0");
        // 1 and 3 are both above 2: it waits for the later one
        ChannelRouter y = channel("13..1.3", "22.....");
        same("both", 3, y.lay(false));
        segments("2 waits for both", y, "1 0 4 0", "2 0 1 2", "3 1 6 1");
    }

    private static void leftmostFirst() {
        ChannelRouter x = channel("21..1.2.", "........");
        same("lay", 2, x.lay(false));
        segments("2 begins further left", x, "1 1 4 1", "2 0 6 0");
        // by their numbers 1 would keep 3 off track 0
        ChannelRouter y = channel("33.11", ".....");
        same("all on one", 1, y.lay(false));
    }

    // Two nets with the same left end share a column, so that one of them has to wait for the other.
    private static void equalLeftEnds() {
        ChannelRouter x = channel("7.7", "3.3");
        same("the greater number is above", 2, x.lay(false));
        segments("the greater number is above", x, "3 0 2 1", "7 0 2 0");
        ChannelRouter y = channel("3.3", "7.7");
        same("the lower number is above", 2, y.lay(false));
        segments("the lower number is above", y, "3 0 2 0", "7 0 2 1");
    }

    private static void firstOnATrack() {
        ChannelRouter x = channel("11", "..");
        same("in column 0", 1, x.lay(false));
        segments("in column 0", x, "1 0 1 0");
        ChannelRouter y = channel("1.1", "2.2");
        same("on the next track, too", 2, y.lay(false));
        segments("on the next track, too", y, "1 0 2 0", "2 0 2 1");
    }

    private static void rightBehindTheLatest() {
        ChannelRouter x = channel("1122", "....");
        same("in the next column", 1, x.lay(false));
        segments("in the next column", x, "1 0 1 0", "2 2 3 0");
        ChannelRouter y = channel("12.", ".12");
        same("a column too early", 2, y.lay(false));
        ChannelRouter z = new ChannelRouter();
        for (int column = 0; column < 18; column++) {
            z.pin(column, true, 1 + column / 2);
        }
        same("all nine in one row", 1, z.lay(false));
        same("the last one", "9 16 17 0", segment(z, 8));
    }

    private static void behindTheLatestNotTheFirst() {
        // 3 is behind 1, but not behind 2
        ChannelRouter x = channel("11.23.23", "........");
        same("lay", 2, x.lay(false));
        segments("3 is not behind 2", x, "1 0 1 0", "2 3 6 0", "3 4 7 1");
    }

    private static void meetingNetsDoNotShareATrack() {
        ChannelRouter x = channel("1.1..", "..2.2");
        same("whole", 2, x.lay(false));
        segments("whole", x, "1 0 2 0", "2 2 4 1");
        same("cut", 2, x.lay(true));
        segments("cut", x, "1 0 2 0", "2 2 4 1");
        ChannelRouter y = channel("..2.2", "1.1..");
        same("the right one is above", 2, y.lay(true));
        segments("the right one is above", y, "1 0 2 1", "2 2 4 0");
    }

    private static void meetingPiecesShareATrack() {
        ChannelRouter x = channel("1.1.1.1", ".......");
        same("lay", 1, x.lay(true));
        segments("all on one", x, "1 0 2 0", "1 2 4 0", "1 4 6 0");
    }

    private static void noSegmentsNoTracks() {
        same("no pins", 0, new ChannelRouter().lay(false));
        same("no pins, cut", 0, new ChannelRouter().lay(true));
        same("straight nets", 0, channel("12", "12").lay(true));
    }

    private static void noEmptyTrack() {
        ChannelRouter x = channel("1234", "4123");
        x.pin(0, false, 0);
        x.pin(4, false, 4);
        same("tracks", 4, x.lay(false));
        segments("one on each", x, "1 0 1 3", "2 1 2 2", "3 2 3 1", "4 3 4 0");
    }

    // The ring through every column, without the piece that closes it.
    private static void chainThroughAllColumns() {
        ChannelRouter x = channel(".3112233112233112231", "1.233112233112233112");
        same("tracks", 19, x.lay(true));
        int[] chain = {0, 13, 26, 4, 17, 30, 8, 21, 34, 12, 23, 10, 32, 19, 6, 28, 15, 2, 24};
        for (int track = 0; track < chain.length; track++) {
            same("track of " + chain[track], track, x.segment(chain[track], 3));
        }
        same("the last track", 3, x.level(18, 1));
        outOfBounds("no more", () -> x.level(19, 1));
    }

    // ---- density and wiring

    private static void densityCountsEnds() {
        same("right end and left end meet", 2, channel("1.1..", "..2.2").density());
        same("three have column 3 alone in common", 3, channel("13.1..", "...232").density());
        same("one net", 1, channel("11", "..").density());
    }

    private static void densityStopsAtEnds() {
        same("behind one another", 1, channel("1122", "....").density());
        same("with a gap", 1, channel("11.22", ".....").density());
        same("none", 0, new ChannelRouter().density());
    }

    private static void densityOfLongNetsAlone() {
        same("straight", 0, channel("12", "12").density());
        same("single", 0, channel("12", "34").density());
        same("straight and single between", 1, channel("1.23.1", "..2...").density());
        same("nine", 9, channel("123456789123456789", "..................").density());
    }

    private static void densityInOuterColumns() {
        ChannelRouter x = new ChannelRouter();
        x.pin(0, true, 1);
        x.pin(1, true, 1);
        x.pin(0, false, 2);
        x.pin(2, true, 2);
        same("at the left", 2, x.density());
        ChannelRouter y = new ChannelRouter();
        y.pin(17, true, 1);
        y.pin(19, true, 1);
        y.pin(18, true, 2);
        y.pin(19, false, 2);
        y.pin(16, true, 3);
        y.pin(15, true, 3);
        same("at the right", 2, y.density());
    }

    private static void levelFromLeftToRight() {
        ChannelRouter x = channel(".1.1.22.", "........");
        same("lay", 1, x.lay(false));
        level("whole", x, 0, 0, 1, 1, 1, 0, 2, 2, 0);
        same("lay cut", 1, x.lay(true));
        level("cut", x, 0, 0, 1, 1, 1, 0, 2, 2, 0);
    }

    private static void rowsOfAColumn() {
        ChannelRouter x = channel("1.1", "2.2");
        same("lay", 2, x.lay(false));
        same("the top", 1, x.upright(0, -1));
        same("track 0", 1, x.upright(0, 0));
        same("track 1", 2, x.upright(0, 1));
        same("the bottom", 2, x.upright(0, 2));
        outOfBounds("over the top", () -> x.upright(0, -2));
        outOfBounds("under the bottom", () -> x.upright(0, 3));
    }

    private static void oneNetHasAllRows() {
        ChannelRouter x = channel("1.15.", "1..52");
        x.pin(4, true, 0);
        x.pin(6, false, 2);
        x.pin(2, false, 2);
        same("lay", 2, x.lay(false));
        upright("long, on track 0 alone", x, 0, 1, 1, 1, 1);
        upright("straight", x, 3, 5, 5, 5, 5);
        upright("none twice", x, 1, 0, 0, 0, 0);
        upright("two nets", x, 2, 1, 1, 2, 2);
    }

    private static void topReachesItsGreatestTrack() {
        ChannelRouter x = channel(CROSSED_TOP, CROSSED_BOTTOM);
        same("cut", 3, x.lay(true));
        upright("past its piece on track 0 to that on track 2", x, 3, 1, 1, 1, 1, 0);
        upright("to track 0", x, 0, 1, 1, 2, 2, 2);
        upright("to track 1", x, 6, 2, 2, 2, 1, 1);
        ChannelRouter y = channel("123.1.", "23.3..");
        same("chain", 3, y.lay(false));
        upright("not below it, though nothing else is there", y, 4, 1, 1, 0, 0, 0);
    }

    private static void bottomReachesItsLeastTrack() {
        ChannelRouter x = channel("1.....2", "2..1..1");
        same("cut", 3, x.lay(true));
        upright("past its piece on track 2 to that on track 0", x, 3, 0, 1, 1, 1, 1);
        ChannelRouter y = channel("123.1.", "23.3..");
        same("chain", 3, y.lay(false));
        upright("not above it, though nothing else is there", y, 3, 0, 0, 0, 3, 3);
        y.pin(5, true, 1);
        y.pin(5, false, 3);
        same("chain again", 3, y.lay(false));
        upright("a row between the two", y, 5, 1, 1, 0, 3, 3);
    }

    private static void otherPiecesDoNotCount() {
        // net 1 is on track 0 up to column 4, and on track 2 from there on
        ChannelRouter x = channel("1.1.1..2", "2......1");
        same("top", 3, x.lay(true));
        segments("top", x, "1 0 2 0", "1 2 4 0", "1 4 7 2", "2 0 7 1");
        upright("not to track 2", x, 2, 1, 1, 0, 0, 0);
        upright("not past 2", x, 0, 1, 1, 2, 2, 2);
        // net 1 is on track 0 up to column 3, and on track 2 from there on
        ChannelRouter y = channel("1..1..2..", "2.....1.1");
        same("bottom", 3, y.lay(true));
        segments("bottom", y, "1 0 3 0", "1 3 6 2", "1 6 8 2", "2 0 6 1");
        upright("not from track 0", y, 8, 0, 0, 0, 1, 1);
    }

    private static void noViaWhereNetsCross() {
        ChannelRouter x = channel(CROSSED_TOP, CROSSED_BOTTOM);
        same("cut", 3, x.lay(true));
        same("2 on the track", 2, x.level(1, 3));
        same("1 in the column", 1, x.upright(3, 1));
        same("no via", false, x.via(1, 3));
        same("none in the column", false, x.via(1, 2));
        ChannelRouter y = channel("1.5.1", "..5..");
        same("straight net", 1, y.lay(false));
        same("5 in the column", 5, y.upright(2, 0));
        same("no via of a straight net", false, y.via(0, 2));
        same("none on the track", false, y.via(0, 5));
    }

    private static void viasOfTwoPieces() {
        ChannelRouter x = channel(CROSSED_TOP, CROSSED_BOTTOM);
        same("cut", 3, x.lay(true));
        same("the first piece", true, x.via(0, 3));
        same("the second piece", true, x.via(2, 3));
        same("vias", 6, x.count(2));
        ChannelRouter y = channel("1.1.1", ".....");
        y.lay(true);
        same("both on one track", true, y.via(0, 2));
        same("it is one via", 3, y.count(2));
    }

    // ---- exceptions

    private static void columnIsRefusedBeforeNet() {
        ChannelRouter x = new ChannelRouter();
        outOfBounds("both too great", () -> x.pin(20, true, 10));
        outOfBounds("both too small", () -> x.pin(-1, false, -1));
        illegalArgument("the net alone", () -> x.pin(19, true, 10));
    }

    private static void singleIsRefusedBeforeRing() {
        ChannelRouter x = channel("12.9", "21..");
        illegalArgument("lay", () -> x.lay(false));
        illegalArgument("lay cut", () -> x.lay(true));
        illegalArgument("layAny", () -> x.layAny());
        x.pin(3, true, 0);
        illegalState("the ring alone", () -> x.layAny());
    }

    private static ChannelRouter laidCrossed() {
        ChannelRouter x = channel(CROSSED_TOP, CROSSED_BOTTOM);
        illegalState("a ring is told", () -> x.lay(false));
        x.layAny();
        return x;
    }

    private static void unchangedBy(String what, Change refused) {
        ChannelRouter x = laidCrossed();
        refused.on(x);
        same(what, allOf(laidCrossed()), allOf(x));
    }

    private static void refusedPinChangesNothing() {
        unchangedBy("no such column", x -> outOfBounds("column 20", () -> x.pin(20, true, 1)));
        unchangedBy("no column -1", x -> outOfBounds("column -1", () -> x.pin(-1, false, 0)));
        unchangedBy("no such net", x -> illegalArgument("net 10", () -> x.pin(0, true, 10)));
        unchangedBy("no net -1", x -> illegalArgument("net -1", () -> x.pin(6, false, -1)));
    }

    private static void refusedLooksChangeNothing() {
        unchangedBy("segment", x -> outOfBounds("segment", () -> x.segment(3, 0)));
        unchangedBy("segment, what", x -> outOfBounds("segment", () -> x.segment(0, 4)));
        unchangedBy("level", x -> outOfBounds("level", () -> x.level(3, 0)));
        unchangedBy("upright", x -> outOfBounds("upright", () -> x.upright(0, 4)));
        unchangedBy("via", x -> outOfBounds("via", () -> x.via(0, 20)));
        unchangedBy("net", x -> outOfBounds("net", () -> x.net(0, 0)));
        unchangedBy("count", x -> outOfBounds("count", () -> x.count(6)));
        unchangedBy("ring", x -> same("ring", -1, x.ring(2)));
        unchangedBy("pairs and density", x -> same("pairs", 4, x.pairs(false) + x.density()));
    }

    private static void refusedLayKeepsWhatWasLaid() {
        ChannelRouter x = channel(CROSSED_TOP, CROSSED_BOTTOM);
        same("laid", 3, x.lay(true));
        illegalState("ring", () -> x.lay(false));
        counts("the refusal is counted", x, 3, 3, 6, 1, 1, 1);
        ring("the ring is told", x, 0, 1);
        ChannelRouter twin = channel(CROSSED_TOP, CROSSED_BOTTOM);
        illegalState("ring before", () -> twin.lay(false));
        same("laid after", 3, twin.lay(true));
        same("all else is as it was laid", allOf(twin), allOf(x));
    }

    private static void refusedForSingleTellsNothing() {
        ChannelRouter x = channel("132.", "321.");
        illegalState("ring of three", () -> x.lay(false));
        x.pin(3, true, 9);
        illegalArgument("lay", () -> x.lay(false));
        illegalArgument("lay cut", () -> x.lay(true));
        illegalArgument("layAny", () -> x.layAny());
        ring("the ring from before", x, 0, 2, 1);
        counts("one refusal for a ring", x, 0, 0, 0, 0, 1, 0);
    }

    private static void refusedLayLaysNothing() {
        ChannelRouter x = channel("12", "21");
        illegalState("lay", () -> x.lay(false));
        nothingIsLaid("lay", x);
        illegalState("lay cut", () -> x.lay(true));
        nothingIsLaid("lay cut", x);
        illegalState("layAny", () -> x.layAny());
        nothingIsLaid("layAny", x);
        ChannelRouter y = channel("11.2", "....");
        illegalArgument("single", () -> y.lay(false));
        nothingIsLaid("single", y);
    }
}
