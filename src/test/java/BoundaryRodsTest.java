/**
 * The terms on the ring, its rods and how they move: each sentence that names a boundary case has a
 * test of its own here, in the order of the document.
 */
final class BoundaryRodsTest {
    private static final int UNKNOWN = Checks.UNKNOWN;
    private static final int BAD_VALUE = Checks.BAD_VALUE;
    private static final int FULL = Checks.FULL;
    private static final int NOT_POSSIBLE = Checks.NOT_POSSIBLE;
    private static final int NONE = Checks.NONE;

    private static final Checks CHECKS = new Checks();

    public static void main(String[] args) {
        theRingIs20To1000Long();
        placesGoTo1LessThanL();
        behindTheLastPlaceComes0();
        toTheRightOverTheSeam();
        toTheLeftOverTheSeam();
        manyTimesRoundTheRing();
        atMost8Rods();
        numberedAsTheyCame();
        lengthsAre1To20();
        speedsAreMinus9To9();
        coversAsManyPiecesAsItsLength();
        noPieceIsCoveredTwice();
        noPieceIsCoveredTwiceOverTheSeam();
        aGapMayBeFilled();
        lengthsTogetherAreLessThanL();
        lengthsOfEightTogether();
        freeLengthIsWhatIsLeft();
        gapOfASingleRodIsR();
        gapsAreR();
        rodsTouchIfTheGapIs0();
        aClusterIsAsManyAsThereAre();
        aClusterGoesOverTheSeam();
        onlyAFasterLeftOneMeets();
        theyMeetWhenTheyTouch();
        theyMeetAtFractionsOfTicks();
        theyMeetOverTheSeam();
        moreThanTwoAtTheSameMoment();
        eightAtTheSameMoment();
        rodsThatAreRemovedMeetNoMore();
        rodsThatArePutExchangeLater();
        rodsThatAreGivenSpeedsExchangeLater();
        rodsThatAreTurnedRoundExchangeLater();
        impulsesAre1To18();
        atTheVeryEndBelongsToTheTicks();
        rodsKeepTheirOrder();
        theSmallestFreeLength();
        wholePlacesAtWholeTicks();
        CHECKS.end();
    }

    private static void due(String call, long got, long want) {
        CHECKS.due(call, got, want);
    }

    private static RingRods ring(int length, int... rods) {
        return CHECKS.ring(length, rods);
    }

    private static void theRingIs20To1000Long() {
        RingRods rods = new RingRods();
        due("L at first", rods.count(0), 100);
        due("one too short", rods.setRing(19), BAD_VALUE);
        due("one too long", rods.setRing(1001), BAD_VALUE);
        due("below 0", rods.setRing(-20), BAD_VALUE);
        due("L is still the first", rods.count(0), 100);
        due("the shortest", rods.setRing(20), 100);
        due("L of the shortest", rods.count(0), 20);
        due("the longest", rods.setRing(1000), 20);
        due("L of the longest", rods.count(0), 1000);
    }

    private static void placesGoTo1LessThanL() {
        for (int length : new int[] {20, 21, 100, 999, 1000}) {
            RingRods rods = ring(length);
            due("piece before the first of " + length, rods.cover(-1), UNKNOWN);
            due("first piece of " + length, rods.cover(0), NONE);
            due("last piece of " + length, rods.cover(length - 1), NONE);
            due("piece behind the last of " + length, rods.cover(length), UNKNOWN);
            due("rod before the first of " + length, rods.addRod(-1, 1, 0), UNKNOWN);
            due("rod behind the last of " + length, rods.addRod(length, 1, 0), UNKNOWN);
            due("rod at the last of " + length, rods.addRod(length - 1, 1, 0), 0);
            due("rod at the first of " + length, rods.addRod(0, 1, 0), 1);
            due("the last is covered, of " + length, rods.cover(length - 1), 0);
            due("the first is covered, of " + length, rods.cover(0), 1);
        }
    }

    private static void behindTheLastPlaceComes0() {
        for (int length : new int[] {20, 1000}) {
            RingRods rods = ring(length, length - 1, 2, 0);
            due("the place stays", rods.rod(0, 0), length - 1);
            due("the last piece", rods.cover(length - 1), 0);
            due("the first piece", rods.cover(0), 0);
            due("the second piece", rods.cover(1), NONE);
            due("the last but one", rods.cover(length - 2), NONE);
        }
        RingRods longest = ring(100, 99, 20, 0);
        due("19th piece behind the seam", longest.cover(18), 0);
        due("20th piece behind the seam", longest.cover(19), NONE);
        RingRods notOver = ring(100, 80, 20, 0);
        due("the last piece of one that ends at the seam", notOver.cover(99), 0);
        due("the first piece beside it", notOver.cover(0), NONE);
    }

    private static void toTheRightOverTheSeam() {
        RingRods rods = ring(100, 99, 1, 1);
        due("placeIn", rods.placeIn(0, 1), 0);
        due("pass", rods.pass(1), 0);
        due("place", rods.rod(0, 0), 0);
        due("way", rods.rod(0, 7), 1000001);
        due("covers", rods.cover(0), 0);
        due("has left", rods.cover(99), NONE);
        RingRods last = ring(100, 90, 1, 9);
        last.pass(1);
        due("up to the last place", last.rod(0, 0), 99);
        last.pass(1);
        due("from the last place", last.rod(0, 0), 8);
    }

    private static void toTheLeftOverTheSeam() {
        RingRods rods = ring(100, 0, 1, -1);
        due("placeIn", rods.placeIn(0, 1), 99);
        due("pass", rods.pass(1), 0);
        due("place", rods.rod(0, 0), 99);
        due("way", rods.rod(0, 7), 999999);
        due("covers", rods.cover(99), 0);
        due("has left", rods.cover(0), NONE);
        RingRods first = ring(100, 9, 20, -9);
        first.pass(1);
        due("up to the first place", first.rod(0, 0), 0);
        first.pass(1);
        due("from the first place", first.rod(0, 0), 91);
    }

    private static void manyTimesRoundTheRing() {
        RingRods right = ring(20, 7, 3, 9);
        due("placeIn to the right", right.placeIn(0, 99), 18);
        right.pass(99);
        due("to the right", right.rod(0, 0), 18);
        due("way to the right", right.rod(0, 7), 1000891);
        RingRods left = ring(20, 7, 3, -9);
        due("placeIn to the left", left.placeIn(0, 99), 16);
        left.pass(99);
        due("to the left", left.rod(0, 0), 16);
        due("way to the left", left.rod(0, 7), 999109);
        // side by side, 900 places are 45 rounds
        RingRods pair = ring(20, 0, 1, 9, 1, 1, 9);
        pair.pass(100);
        due("first of two", pair.rod(0, 0), 0);
        due("second of two", pair.rod(1, 0), 1);
        due("way of the first", pair.rod(0, 7), 1000900);
        due("way of the second", pair.rod(1, 7), 1000900);
    }

    private static void atMost8Rods() {
        RingRods rods = ring(100);
        for (int rod = 0; rod < 8; rod++) {
            due("rod " + rod, rods.addRod(2 * rod, 1, 0), rod);
        }
        due("the ninth", rods.addRod(16, 1, 0), FULL);
        due("rods", rods.count(1), 8);
        due("its piece", rods.cover(16), NONE);
        due("the eighth is a rod", rods.rod(7, 0), 14);
        due("the ninth is none", rods.rod(8, 0), UNKNOWN);
        rods.removeRod(3);
        due("one more behind one less", rods.addRod(16, 1, 0), 7);
        due("the ninth again", rods.addRod(18, 1, 0), FULL);
    }

    private static void numberedAsTheyCame() {
        RingRods rods = ring(100, 60, 1, 0, 20, 2, 0, 99, 3, 0, 40, 4, 0);
        for (int rod = 0; rod < 4; rod++) {
            due("length of " + rod, rods.rod(rod, 1), rod + 1);
        }
        rods.removeRod(0);
        due("one number earlier", rods.rod(0, 1), 2);
        due("the last number", rods.rod(2, 1), 4);
        due("a new one comes behind", rods.addRod(60, 5, 0), 3);
        due("its length", rods.rod(3, 1), 5);
    }

    private static void lengthsAre1To20() {
        RingRods rods = ring(100);
        due("length 0", rods.addRod(0, 0, 0), BAD_VALUE);
        due("length -1", rods.addRod(0, -1, 0), BAD_VALUE);
        due("length 21", rods.addRod(0, 21, 0), BAD_VALUE);
        due("length 1", rods.addRod(0, 1, 0), 0);
        due("length 20", rods.addRod(1, 20, 0), 1);
        due("the shortest", rods.rod(0, 1), 1);
        due("the longest", rods.rod(1, 1), 20);
    }

    private static void speedsAreMinus9To9() {
        RingRods rods = ring(100);
        due("speed -10", rods.addRod(0, 1, -10), BAD_VALUE);
        due("speed 10", rods.addRod(0, 1, 10), BAD_VALUE);
        due("speed -9", rods.addRod(0, 1, -9), 0);
        due("speed 9", rods.addRod(50, 1, 9), 1);
        due("the slowest", rods.rod(0, 2), 91);
        due("the fastest", rods.rod(1, 2), 109);
        due("set to -10", rods.setSpeed(0, -10), BAD_VALUE);
        due("set to 10", rods.setSpeed(0, 10), BAD_VALUE);
        due("set to 9", rods.setSpeed(0, 9), 91);
        due("set to -9", rods.setSpeed(0, -9), 109);
    }

    private static void coversAsManyPiecesAsItsLength() {
        for (int length : new int[] {1, 2, 20}) {
            RingRods rods = ring(100, 30, length, 0);
            due("before it, length " + length, rods.cover(29), NONE);
            due("its first, length " + length, rods.cover(30), 0);
            due("its last, length " + length, rods.cover(30 + length - 1), 0);
            due("behind it, length " + length, rods.cover(30 + length), NONE);
        }
    }

    private static void noPieceIsCoveredTwice() {
        RingRods rods = ring(100, 10, 5, 0);
        due("its first piece", rods.addRod(6, 5, 0), NOT_POSSIBLE);
        due("its last piece", rods.addRod(14, 5, 0), NOT_POSSIBLE);
        due("a piece inside", rods.addRod(12, 1, 0), NOT_POSSIBLE);
        due("all its pieces", rods.addRod(10, 5, 0), NOT_POSSIBLE);
        due("more than its pieces", rods.addRod(9, 7, 0), NOT_POSSIBLE);
        due("up to its first piece", rods.addRod(5, 5, 0), 1);
        due("from its last piece on", rods.addRod(15, 5, 0), 2);
    }

    private static void noPieceIsCoveredTwiceOverTheSeam() {
        RingRods rods = ring(100, 98, 4, 0);
        due("its first piece", rods.addRod(95, 4, 0), NOT_POSSIBLE);
        due("its last piece", rods.addRod(1, 1, 0), NOT_POSSIBLE);
        due("its piece at 0", rods.addRod(0, 20, 0), NOT_POSSIBLE);
        due("its piece at 99", rods.addRod(99, 1, 0), NOT_POSSIBLE);
        due("more than its pieces", rods.addRod(97, 6, 0), NOT_POSSIBLE);
        due("up to its first piece", rods.addRod(95, 3, 0), 1);
        due("from its last piece on", rods.addRod(2, 1, 0), 2);
        RingRods reached = ring(100, 0, 1, 0);
        due("reaches it over the seam", reached.addRod(98, 3, 0), NOT_POSSIBLE);
        due("ends before it at the seam", reached.addRod(98, 2, 0), 1);
    }

    private static void aGapMayBeFilled() {
        RingRods rods = ring(30, 0, 5, 0, 10, 5, 0);
        due("one too long to the right", rods.addRod(5, 6, 0), NOT_POSSIBLE);
        due("one too far to the left", rods.addRod(4, 6, 0), NOT_POSSIBLE);
        due("just as long", rods.addRod(5, 5, 0), 2);
        due("all in one cluster", rods.rod(2, 5), 3);
    }

    private static void lengthsTogetherAreLessThanL() {
        RingRods rods = ring(20);
        due("one as long as the ring", rods.addRod(0, 20, 0), NOT_POSSIBLE);
        due("no rod", rods.count(1), 0);
        due("one less", rods.addRod(0, 19, 0), 0);
        due("the last piece", rods.addRod(19, 1, 0), NOT_POSSIBLE);
        due("is not covered", rods.cover(19), NONE);
        RingRods longer = ring(21);
        due("20 on a ring of 21", longer.addRod(20, 20, 0), 0);
        due("the piece that is left", longer.addRod(19, 1, 0), NOT_POSSIBLE);
        RingRods two = ring(40, 0, 20, 0);
        due("20 and 20 on a ring of 40", two.addRod(20, 20, 0), NOT_POSSIBLE);
        due("20 and 19 on a ring of 40", two.addRod(20, 19, 0), 1);
    }

    private static void lengthsOfEightTogether() {
        RingRods rods = ring(20, 0, 2, 0, 2, 2, 0, 4, 2, 0, 6, 2, 0, 8, 2, 0, 10, 2, 0, 12, 2, 0);
        due("6 for the last 6", rods.addRod(14, 6, 0), NOT_POSSIBLE);
        due("5 for the last 6", rods.addRod(14, 5, 0), 7);
        due("R", rods.count(2), 1);
        RingRods longest = ring(161);
        for (int rod = 0; rod < 8; rod++) {
            due("the longest " + rod, longest.addRod(20 * rod, 20, 0), rod);
        }
        due("R of the longest", longest.count(2), 1);
        RingRods none = ring(160);
        for (int rod = 0; rod < 7; rod++) {
            none.addRod(20 * rod, 20, 0);
        }
        due("the longest would leave nothing", none.addRod(140, 20, 0), NOT_POSSIBLE);
    }

    private static void freeLengthIsWhatIsLeft() {
        RingRods rods = ring(1000);
        due("R without rods", rods.count(2), 1000);
        for (int rod = 0; rod < 8; rod++) {
            rods.addRod(100 * rod, 20, 0);
        }
        due("R with the longest", rods.count(2), 840);
        for (int rod = 7; rod >= 0; rod--) {
            rods.removeRod(rod);
        }
        due("R without them", rods.count(2), 1000);
    }

    private static void gapOfASingleRodIsR() {
        for (int place : new int[] {0, 1, 50, 99}) {
            due("gap at " + place, ring(100, place, 20, 0).rod(0, 3), 80);
        }
        due("greatest gap", ring(1000, 5, 1, 0).rod(0, 3), 999);
        due("least gap", ring(20, 5, 19, 0).rod(0, 3), 1);
    }

    private static void gapsAreR() {
        RingRods rods = ring(50, 40, 15, 0, 10, 5, 0, 20, 7, 0);
        due("gap over the seam", rods.rod(0, 3), 5);
        due("gap in the middle", rods.rod(1, 3), 5);
        due("gap up to the seam's rod", rods.rod(2, 3), 13);
        due("R", rods.count(2), 23);
        RingRods touching = ring(50, 40, 15, 0, 5, 5, 0);
        due("gap 0", touching.rod(0, 3), 0);
        due("all the free length", touching.rod(1, 3), 30);
    }

    private static void rodsTouchIfTheGapIs0() {
        RingRods apart = ring(100, 10, 5, 0, 16, 5, 0);
        due("gap of 1", apart.rod(0, 3), 1);
        due("do not touch", apart.rod(0, 5), 1);
        RingRods touching = ring(100, 10, 5, 0, 15, 5, 0);
        due("gap of 0", touching.rod(0, 3), 0);
        due("touch", touching.rod(0, 5), 2);
        due("touch, seen from the other", touching.rod(1, 5), 2);
    }

    private static void aClusterIsAsManyAsThereAre() {
        RingRods touching = ring(100);
        RingRods apart = ring(100);
        for (int rod = 0; rod < 8; rod++) {
            touching.addRod(10 + 3 * rod, 3, 0);
            apart.addRod(10 + 4 * rod, 3, 0);
        }
        due("one cluster", touching.count(8), 1);
        due("eight clusters", apart.count(8), 8);
        for (int rod = 0; rod < 8; rod++) {
            due("size with " + rod, touching.rod(rod, 5), 8);
            due("leftmost with " + rod, touching.rod(rod, 6), 0);
            due("size of alone " + rod, apart.rod(rod, 5), 1);
            due("leftmost of alone " + rod, apart.rod(rod, 6), rod);
        }
    }

    private static void aClusterGoesOverTheSeam() {
        // from left to right 4, 3, 2, 1, 0, the seam is inside of 2
        RingRods rods = ring(20, 5, 2, 0, 2, 3, 0, 19, 3, 0, 15, 4, 0, 12, 3, 0);
        for (int rod = 0; rod < 5; rod++) {
            due("size with " + rod, rods.rod(rod, 5), 5);
            due("leftmost with " + rod, rods.rod(rod, 6), 4);
            due("right of " + rod, rods.rod(rod, 4), (rod + 4) % 5);
        }
        due("clusters", rods.count(8), 1);
        due("the only gap", rods.rod(0, 3), 5);
        // the seam lies between two that touch
        RingRods at = ring(20, 0, 3, 0, 17, 3, 0);
        due("left of the seam", at.rod(1, 3), 0);
        due("right of the seam", at.rod(0, 3), 14);
        due("size over the seam", at.rod(0, 5), 2);
        due("leftmost over the seam", at.rod(0, 6), 1);
    }

    private static void onlyAFasterLeftOneMeets() {
        RingRods equal = ring(100, 0, 10, 3, 10, 10, 3);
        due("equal", equal.next(2), NONE);
        due("equal for long", equal.pass(100), 0);
        RingRods slower = ring(100, 0, 10, 2, 10, 10, 3);
        due("slower, on the long way round", slower.next(0), 80);
        due("slower, before that", slower.pass(79), 0);
        due("slower, then", slower.pass(1), 1);
        RingRods faster = ring(100, 0, 10, 3, 10, 10, 2);
        due("faster, at once", faster.next(0), 0);
        due("faster, at once in any tick", faster.pass(1), 1);
    }

    private static void theyMeetWhenTheyTouch() {
        // 2 pieces between them, closing by 1 in a tick
        RingRods rods = ring(100, 10, 5, 1, 17, 5, 0);
        due("before they touch", rods.pass(1), 0);
        due("gap before", rods.rod(0, 3), 1);
        due("when they touch", rods.pass(1), 1);
        due("gap then", rods.rod(0, 3), 0);
        due("exchanged 0", rods.rod(0, 2), 100);
        due("exchanged 1", rods.rod(1, 2), 101);
        due("and go on", rods.pass(1), 0);
        due("gap behind it", rods.rod(0, 3), 1);
    }

    private static void theyMeetAtFractionsOfTicks() {
        RingRods half = ring(100, 10, 5, 1, 16, 5, -1);
        due("half: upper", half.next(0), 1);
        due("half: lower", half.next(1), 2);
        due("half: pass", half.pass(1), 1);
        due("half: place of 0", half.rod(0, 0), 10);
        due("half: place of 1", half.rod(1, 0), 16);
        due("half: way of 0", half.rod(0, 7), 1000000);
        due("half: speed of 0", half.rod(0, 2), 99);
        RingRods smallest = ring(100, 10, 5, 9, 16, 5, -9);
        due("smallest: upper", smallest.next(0), 1);
        due("smallest: lower", smallest.next(1), 18);
        due("smallest: pass", smallest.pass(1), 1);
        due("smallest: place of 0", smallest.rod(0, 0), 2);
        due("smallest: place of 1", smallest.rod(1, 0), 24);
    }

    private static void theyMeetOverTheSeam() {
        // 95 to 99 is covered, and 2 to 6: two pieces over the seam between them
        RingRods rods = ring(100, 2, 5, 0, 95, 5, 1);
        due("moment", rods.next(0), 2);
        due("pass", rods.pass(2), 1);
        due("left one", rods.rod(1, 0), 97);
        due("left one's gap", rods.rod(1, 3), 0);
        due("left one's speed", rods.rod(1, 2), 100);
        due("right one's speed", rods.rod(0, 2), 101);
        due("further", rods.pass(1), 0);
        due("right one", rods.rod(0, 0), 3);
        due("left one stays", rods.rod(1, 0), 97);
    }

    private static void moreThanTwoAtTheSameMoment() {
        // the middle one stands, both others reach it at the end of tick 3
        RingRods rods = ring(100, 10, 5, 2, 21, 5, 0, 32, 5, -2);
        due("not before", rods.pass(2), 0);
        due("at once", rods.pass(1), 3);
        due("impulses", rods.count(5), 8);
        due("speed of the left one", rods.rod(0, 2), 98);
        due("speed of the middle one", rods.rod(1, 2), 100);
        due("speed of the right one", rods.rod(2, 2), 102);
        // the same at a fraction of a tick, where just two speeds differ
        RingRods half = ring(100, 10, 5, 1, 15, 5, 1, 21, 5, -1);
        due("at one half", half.next(1), 2);
        due("two meetings", half.next(2), 2);
        due("pass", half.pass(1), 2);
        due("left one has turned", half.rod(0, 2), 99);
        due("middle one goes on", half.rod(1, 2), 101);
        due("right one has turned", half.rod(2, 2), 101);
    }

    private static void eightAtTheSameMoment() {
        RingRods rods = new RingRods();
        rods.setRing(200);
        // each pair is as far apart as their speeds differ: all touch at the end of the first tick
        int place = 50;
        int[] speeds = {9, 7, 5, 3, 1, -1, -3, -9};
        for (int rod = 0; rod < 8; rod++) {
            rods.addRod(place, 3, speeds[rod]);
            place += 3 + (rod < 7 ? speeds[rod] - speeds[rod + 1] : 0);
        }
        due("upper", rods.next(0), 1);
        due("lower", rods.next(1), 1);
        due("each with each", rods.next(2), 28);
        due("one moment", rods.moments(1), 1);
        due("pass", rods.pass(1), 28);
        for (int rod = 0; rod < 8; rod++) {
            due("turned round " + rod, rods.rod(rod, 2), 100 + speeds[7 - rod]);
            due("touching " + rod, rods.rod(rod, 5), 8);
        }
        due("no more then", rods.pass(1), 0);
    }

    private static void rodsThatAreRemovedMeetNoMore() {
        RingRods rods = ring(100, 10, 5, 5, 20, 5, 0, 30, 5, -5);
        rods.removeRod(1);
        due("upper", rods.next(0), 3);
        due("lower", rods.next(1), 2);
        due("meetings", rods.next(2), 1);
        rods.removeRod(1);
        due("alone", rods.next(2), NONE);
        rods.removeRod(0);
        due("none", rods.next(2), NONE);
    }

    private static void rodsThatArePutExchangeLater() {
        RingRods rods = ring(100, 10, 5, 4, 15, 5, -4);
        due("put: left one", rods.rod(0, 2), 104);
        due("put: right one", rods.rod(1, 2), 96);
        due("put: no meeting yet", rods.count(4), 0);
        due("put: speed now", rods.speedIn(0, 0), 104);
        due("put: place now", rods.placeIn(0, 0), 10);
        due("put: meeting at the beginning", rods.meetings(1, 0), 1);
        due("put: moment at the beginning", rods.moments(1), 1);
        due("put: pass", rods.pass(1), 1);
        due("put: left one then", rods.rod(0, 2), 96);
        due("put: its place then", rods.rod(0, 0), 6);
    }

    private static void rodsThatAreGivenSpeedsExchangeLater() {
        RingRods rods = ring(100, 10, 5, 0, 15, 5, 0);
        due("given", rods.setSpeed(0, 9), 100);
        due("given: left one", rods.rod(0, 2), 109);
        due("given: right one", rods.rod(1, 2), 100);
        due("given: no meeting yet", rods.count(4), 0);
        due("given again, before any tick", rods.setSpeed(0, -1), 109);
        due("given again: pass", rods.pass(1), 0);
        due("given again: left one", rods.rod(0, 2), 99);
        RingRods ordered = ring(100, 10, 5, 0, 15, 5, 0);
        due("ordered", CHECKS.performed(ordered, "s0=9"), 0);
        due("ordered: left one", ordered.rod(0, 2), 109);
        due("ordered: with a tick", CHECKS.performed(ordered, "s1=1;p1"), 1);
        due("ordered: left one then", ordered.rod(0, 2), 101);
        due("ordered: right one then", ordered.rod(1, 2), 109);
    }

    private static void rodsThatAreTurnedRoundExchangeLater() {
        RingRods rods = ring(100, 10, 5, -3, 15, 5, 3);
        due("turned", rods.reverse(), 2);
        due("turned: left one", rods.rod(0, 2), 103);
        due("turned: right one", rods.rod(1, 2), 97);
        due("turned: no meeting yet", rods.count(4), 0);
        due("turned: first moment", rods.next(0), 0);
        due("turned back", rods.reverse(), 2);
        due("turned back: pass", rods.pass(1), 0);
    }

    private static void impulsesAre1To18() {
        RingRods least = ring(100, 10, 5, 1, 15, 5, 0);
        due("least", least.meetings(1, 1), 1);
        least.pass(1);
        due("least so far", least.count(5), 1);
        RingRods greatest = ring(100, 10, 5, 9, 15, 5, -9);
        due("greatest", greatest.meetings(1, 1), 18);
        greatest.pass(1);
        due("greatest so far", greatest.count(5), 18);
    }

    private static void atTheVeryEndBelongsToTheTicks() {
        RingRods rods = ring(100, 0, 10, 5, 50, 10, 0);
        due("forecast one tick before", rods.meetings(7, 0), 0);
        due("forecast at the end", rods.meetings(8, 0), 1);
        due("impulse at the end", rods.meetings(8, 1), 5);
        due("speed one tick before", rods.speedIn(0, 7), 105);
        due("speed at the end", rods.speedIn(0, 8), 100);
        due("one tick before", rods.pass(7), 0);
        due("moment at the end", rods.moments(1), 1);
        due("at the end", rods.pass(1), 1);
        due("not in the next tick too", rods.pass(1), 0);
        due("once in all", rods.count(4), 1);
    }

    private static void rodsKeepTheirOrder() {
        RingRods rods = ring(60, 0, 4, 9, 10, 6, -9, 20, 1, 5, 30, 8, -2, 45, 3, 0);
        int[] right = {1, 2, 3, 4, 0};
        for (int tick = 1; tick <= 40; tick++) {
            rods.pass(1);
            for (int rod = 0; rod < right.length; rod++) {
                due("right of " + rod + " behind " + tick, rods.rod(rod, 4), right[rod]);
            }
            due("R behind " + tick, rods.count(2), 38);
        }
    }

    private static void theSmallestFreeLength() {
        // the points meet 18 times in a tick, at first and at last too
        RingRods rods = ring(20, 0, 10, 9, 10, 9, -9);
        due("R", rods.count(2), 1);
        due("meetings", rods.meetings(1, 0), 19);
        due("moments", rods.moments(1), 19);
        due("pass", rods.pass(1), 19);
        due("place of 0", rods.rod(0, 0), 0);
        due("place of 1", rods.rod(1, 0), 10);
        due("speed of 0", rods.rod(0, 2), 91);
        due("way of 0", rods.rod(0, 7), 1000000);
        RingRods alone = ring(20, 0, 19, 9);
        due("alone", alone.pass(100), 0);
        due("way of it alone", alone.rod(0, 7), 1000900);
        due("place of it alone", alone.rod(0, 0), 0);
    }

    private static void wholePlacesAtWholeTicks() {
        // they meet at 1/3 of a tick, and then each 23/3 ticks; 14 ticks are 434 calls
        RingRods rods = ring(30, 3, 4, 2, 8, 3, -1);
        for (int tick = 1; tick <= 14; tick++) {
            rods.pass(1);
            int covered = 0;
            for (int place = 0; place < 30; place++) {
                covered += rods.cover(place) == NONE ? 0 : 1;
            }
            due("pieces that are covered behind " + tick, covered, 7);
        }
        due("meetings in all", rods.count(4), 2);
    }
}
