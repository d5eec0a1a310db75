/**
 * What is told (promises 14 to 21): each sentence that names a boundary case has a test of its own
 * here, in the order of the document.
 */
final class BoundaryToldTest {
    private static final int UNKNOWN = Checks.UNKNOWN;
    private static final int BAD_VALUE = Checks.BAD_VALUE;
    private static final int NONE = Checks.NONE;
    private static final int LEAST = Checks.LEAST;
    private static final int GREATEST = Checks.GREATEST;

    private static final int[] NO_RODS = {LEAST, -1, 2, 7, 8, GREATEST};
    private static final int[] NO_FORECASTS = {LEAST, -1, 101, 10000, GREATEST};

    private static final Checks CHECKS = new Checks();

    public static void main(String[] args) {
        rodThatIsNone();
        rodOfWhatIsNot();
        placesAndLengthsAndSpeeds();
        theNextRodIsItselfIfAlone();
        theNextRodOverTheSeam();
        clustersOf1And8();
        leftmostOfAClusterBesideTheSmallestGap();
        waysToTheRightAndToTheLeft();
        theGreatestWays();
        wayOfARodThatComesAgain();
        coverOutsideOfTheRing();
        coverOfNone();
        placeInOutOfRange();
        placeIn0And100();
        placeInOverTheSeam();
        speedInOutOfRange();
        speedIn0And100();
        speedInOfRodsThatTouch();
        meetingsOutOfRange();
        meetingsOf1And100();
        meetingsWithoutRods();
        theMostMeetings();
        momentsOutOfRange();
        momentsOf1And3();
        momentsAtTheBeginningAndTheEnd();
        eachMomentOnce();
        momentsOfRodsThatCameInAnotherOrder();
        momentsAskedAgain();
        momentsWithoutMeetings();
        nextOutOfRange();
        nextIfRodsNeverMeet();
        nextIsNow();
        nextInLowestTerms();
        theLatestAndTheEarliestNext();
        nextGoesOnWithTheTicks();
        forecastsBehind10000Ticks();
        forecastsChangeNothing();
        countOfWhatIsNot();
        countOfTheEmptyRing();
        countOfRings();
        countOfSpeeds();
        countOfClusters();
        countOfGaps();
        countOfTheHistoryAndTheText();
        CHECKS.end();
    }

    private static void due(String call, long got, long want) {
        CHECKS.due(call, got, want);
    }

    private static RingRods ring(int length, int... rods) {
        return CHECKS.ring(length, rods);
    }

    /** Eight in one cluster, 19 pieces of 20: four go to the right at 9, four to the left. */
    private static RingRods crowded() {
        return ring(20, 0, 3, 9, 3, 3, 9, 6, 3, 9, 9, 2, 9, 11, 2, -9, 13, 2, -9, 15, 2, -9, 17, 2, -9);
    }

    private static void rodThatIsNone() {
        RingRods rods = ring(100, 0, 1, 0, 50, 1, 0);
        for (int rod : NO_RODS) {
            due("rod " + rod, rods.rod(rod, 0), UNKNOWN);
            due("rod " + rod + " of what is not", rods.rod(rod, 8), UNKNOWN);
        }
        due("the first one", rods.rod(0, 0), 0);
        due("the last one", rods.rod(1, 0), 50);
        due("without rods", new RingRods().rod(0, 0), UNKNOWN);
    }

    private static void rodOfWhatIsNot() {
        RingRods rods = ring(100, 0, 1, 0);
        int[] none = {LEAST, -1, 8, 9, GREATEST};
        for (int what : none) {
            due("what " + what, rods.rod(0, what), BAD_VALUE);
        }
        due("what 7", rods.rod(0, 7), 1000000);
    }

    private static void placesAndLengthsAndSpeeds() {
        RingRods rods = ring(1000, 0, 1, -9, 999, 1, 9, 500, 20, 0);
        due("least place", rods.rod(0, 0), 0);
        due("greatest place", rods.rod(1, 0), 999);
        due("least length", rods.rod(0, 1), 1);
        due("greatest length", rods.rod(2, 1), 20);
        due("least speed", rods.rod(0, 2), 91);
        due("greatest speed", rods.rod(1, 2), 109);
        due("no speed", rods.rod(2, 2), 100);
    }

    private static void theNextRodIsItselfIfAlone() {
        RingRods rods = ring(20, 19, 19, 5);
        due("next", rods.rod(0, 4), 0);
        due("gap", rods.rod(0, 3), 1);
        due("size", rods.rod(0, 5), 1);
        due("leftmost", rods.rod(0, 6), 0);
        rods.addRod(0, 1, 0);
        due("still alone", rods.rod(0, 4), 0);
        RingRods two = ring(20, 0, 1, 0, 1, 1, 0);
        due("of two", two.rod(0, 4), 1);
        two.removeRod(0);
        due("alone again", two.rod(0, 4), 0);
    }

    private static void theNextRodOverTheSeam() {
        RingRods rods = ring(100, 99, 1, 0, 0, 1, 0, 50, 1, 0);
        due("from the last place", rods.rod(0, 4), 1);
        due("from the first place", rods.rod(1, 4), 2);
        due("from the middle", rods.rod(2, 4), 0);
        due("gap over the seam", rods.rod(0, 3), 0);
    }

    private static void clustersOf1And8() {
        RingRods rods = crowded();
        for (int rod = 0; rod < 8; rod++) {
            due("size with " + rod, rods.rod(rod, 5), 8);
            due("leftmost with " + rod, rods.rod(rod, 6), 0);
        }
        due("gap of the last", rods.rod(7, 3), 1);
        RingRods alone = ring(100, 0, 1, 0, 50, 1, 0);
        due("size 1", alone.rod(1, 5), 1);
        due("leftmost is itself", alone.rod(1, 6), 1);
        // the shortest rods: the left ends are one place apart
        RingRods shortest = ring(100, 0, 1, 0, 99, 1, 0);
        due("leftmost over the seam", shortest.rod(0, 6), 1);
        due("leftmost before the seam", shortest.rod(1, 6), 1);
        due("size of the shortest", shortest.rod(1, 5), 2);
    }

    private static void leftmostOfAClusterBesideTheSmallestGap() {
        // one piece is free: left of rod 2, so that the cluster is 2, 0, 1
        RingRods rods = ring(21, 3, 10, 0, 13, 7, 0, 0, 3, 0);
        for (int rod = 0; rod < 3; rod++) {
            due("leftmost with " + rod, rods.rod(rod, 6), 2);
            due("size with " + rod, rods.rod(rod, 5), 3);
        }
        due("the gap", rods.rod(1, 3), 1);
        // the free piece goes on, between 0 and 1
        RingRods other = ring(21, 2, 10, 0, 13, 7, 0, 20, 3, 0);
        for (int rod = 0; rod < 3; rod++) {
            due("leftmost then with " + rod, other.rod(rod, 6), 1);
        }
        due("the gap then", other.rod(0, 3), 1);
    }

    private static void waysToTheRightAndToTheLeft() {
        RingRods rods = ring(100, 99, 1, 1, 50, 1, 0);
        due("at first", rods.rod(0, 7), 1000000);
        rods.pass(1);
        due("one to the right", rods.rod(0, 7), 1000001);
        rods.reverse();
        rods.pass(2);
        due("two to the left", rods.rod(0, 7), 999999);
        due("of one that stands", rods.rod(1, 7), 1000000);
    }

    private static void theGreatestWays() {
        RingRods right = ring(20, 0, 19, 9);
        CHECKS.passLong(right, 10000);
        due("to the right", right.rod(0, 7), 1090000);
        RingRods left = ring(20, 0, 19, -9);
        CHECKS.passLong(left, 10000);
        due("to the left", left.rod(0, 7), 910000);
        due("its place", left.rod(0, 0), 0);
    }

    private static void wayOfARodThatComesAgain() {
        RingRods rods = ring(100, 0, 1, 5, 50, 1, 5);
        rods.pass(3);
        rods.removeRod(0);
        due("of the other one", rods.rod(0, 7), 1000015);
        rods.addRod(0, 1, 5);
        due("of a new one", rods.rod(1, 7), 1000000);
        rods.removeRod(0);
        due("of the new one, one number earlier", rods.rod(0, 7), 1000000);
    }

    private static void coverOutsideOfTheRing() {
        for (int length : new int[] {20, 1000}) {
            RingRods rods = ring(length, length - 1, 2, 0);
            int[] outside = {LEAST, -length, -1, length, length + 1, GREATEST};
            for (int place : outside) {
                due("cover " + place + " of " + length, rods.cover(place), UNKNOWN);
            }
            due("the last place of " + length, rods.cover(length - 1), 0);
            due("the first place of " + length, rods.cover(0), 0);
        }
    }

    private static void coverOfNone() {
        RingRods rods = ring(20, 3, 16, 0, 0, 3, 0);
        for (int place = 0; place < 20; place++) {
            due("cover " + place, rods.cover(place), place == 19 ? NONE : place < 3 ? 1 : 0);
        }
    }

    private static void placeInOutOfRange() {
        RingRods rods = ring(100, 0, 1, 1, 50, 1, 0);
        for (int ticks : NO_FORECASTS) {
            due("ticks " + ticks, rods.placeIn(0, ticks), BAD_VALUE);
        }
        for (int rod : NO_RODS) {
            due("rod " + rod, rods.placeIn(rod, 1), UNKNOWN);
            due("rod " + rod + ", ticks out of range", rods.placeIn(rod, 101), UNKNOWN);
        }
    }

    private static void placeIn0And100() {
        RingRods rods = ring(100, 99, 1, 9);
        due("0 ticks", rods.placeIn(0, 0), 99);
        due("1 tick", rods.placeIn(0, 1), 8);
        due("99 ticks", rods.placeIn(0, 99), 90);
        due("100 ticks", rods.placeIn(0, 100), 99);
        RingRods touching = ring(100, 10, 5, 9, 15, 5, -9);
        due("0 ticks, touching", touching.placeIn(0, 0), 10);
        due("0 ticks, touching, the other", touching.placeIn(1, 0), 15);
    }

    private static void placeInOverTheSeam() {
        RingRods rods = ring(100, 95, 5, 5, 5, 5, -5);
        due("to the seam", rods.placeIn(0, 1), 95);
        due("the other", rods.placeIn(1, 1), 5);
        RingRods left = ring(100, 0, 5, -3, 50, 5, 0);
        due("over it to the left", left.placeIn(0, 1), 97);
        due("up to the meeting", left.placeIn(0, 15), 55);
        due("behind it", left.placeIn(0, 16), 55);
        due("the other behind it", left.placeIn(1, 16), 47);
    }

    private static void speedInOutOfRange() {
        RingRods rods = ring(100, 0, 1, 1, 50, 1, 0);
        for (int ticks : NO_FORECASTS) {
            due("ticks " + ticks, rods.speedIn(0, ticks), BAD_VALUE);
        }
        for (int rod : NO_RODS) {
            due("rod " + rod, rods.speedIn(rod, 1), UNKNOWN);
            due("rod " + rod + ", ticks out of range", rods.speedIn(rod, -1), UNKNOWN);
        }
    }

    private static void speedIn0And100() {
        RingRods rods = ring(100, 0, 10, 5, 50, 10, 0);
        due("0 ticks", rods.speedIn(0, 0), 105);
        due("7 ticks", rods.speedIn(0, 7), 105);
        due("8 ticks", rods.speedIn(0, 8), 100);
        // they meet behind 8, 24, 40, 56, 72 and 88 ticks
        due("100 ticks", rods.speedIn(0, 100), 105);
        due("100 ticks, the other", rods.speedIn(1, 100), 100);
        due("the least", ring(100, 0, 1, -9).speedIn(0, 100), 91);
        due("the greatest", ring(100, 0, 1, 9).speedIn(0, 100), 109);
    }

    private static void speedInOfRodsThatTouch() {
        RingRods rods = ring(100, 10, 5, 9, 15, 5, -9);
        due("now", rods.speedIn(0, 0), 109);
        due("now, the other", rods.speedIn(1, 0), 91);
        due("behind one tick", rods.speedIn(0, 1), 91);
        due("behind one tick, the other", rods.speedIn(1, 1), 109);
    }

    private static void meetingsOutOfRange() {
        RingRods rods = ring(100, 0, 1, 1, 50, 1, 0);
        int[] wrongTicks = {LEAST, -1, 0, 101, GREATEST};
        for (int ticks : wrongTicks) {
            due("ticks " + ticks, rods.meetings(ticks, 0), BAD_VALUE);
            due("impulses, ticks " + ticks, rods.meetings(ticks, 1), BAD_VALUE);
        }
        int[] wrongWhats = {LEAST, -1, 2, GREATEST};
        for (int what : wrongWhats) {
            due("what " + what, rods.meetings(1, what), BAD_VALUE);
            due("what " + what + ", ticks out of range", rods.meetings(0, what), BAD_VALUE);
        }
    }

    private static void meetingsOf1And100() {
        RingRods rods = ring(100, 0, 10, 1, 11, 10, 0);
        due("1 tick", rods.meetings(1, 0), 1);
        due("impulse", rods.meetings(1, 1), 1);
        due("80 ticks", rods.meetings(80, 0), 1);
        due("81 ticks", rods.meetings(81, 0), 2);
        due("100 ticks", rods.meetings(100, 0), 2);
        due("impulses", rods.meetings(100, 1), 2);
    }

    private static void meetingsWithoutRods() {
        due("no rod", new RingRods().meetings(100, 0), 0);
        due("no rod, impulses", new RingRods().meetings(100, 1), 0);
        due("one rod", ring(20, 0, 19, 9).meetings(100, 0), 0);
        due("one rod, impulses", ring(20, 0, 19, 9).meetings(100, 1), 0);
    }

    /** Each of 16 pairs meets 18 times in a tick, and once at the very beginning. */
    private static void theMostMeetings() {
        RingRods rods = crowded();
        due("1 tick", rods.meetings(1, 0), 16 * 19);
        due("100 ticks", rods.meetings(100, 0), 16 * 1801);
        due("impulses", rods.meetings(100, 1), 16 * 1801 * 18);
        due("pass", rods.pass(100), 16 * 1801);
        CHECKS.passLong(rods, 9900);
        due("ticks", rods.count(3), 10000);
        due("meetings so far", rods.count(4), 16 * 180001);
        due("impulses so far", rods.count(5), 16 * 180001 * 18);
        due("clusters", rods.count(8), 1);
    }

    private static void momentsOutOfRange() {
        RingRods rods = crowded();
        int[] wrong = {LEAST, -1, 0, 4, 100, GREATEST};
        for (int ticks : wrong) {
            due("ticks " + ticks, rods.moments(ticks), BAD_VALUE);
            due("ticks " + ticks + " without rods", new RingRods().moments(ticks), BAD_VALUE);
        }
    }

    private static void momentsOf1And3() {
        RingRods rods = crowded();
        due("1 tick", rods.moments(1), 19);
        due("2 ticks", rods.moments(2), 37);
        due("3 ticks", rods.moments(3), 55);
    }

    private static void momentsAtTheBeginningAndTheEnd() {
        RingRods beginning = ring(100, 0, 10, 1, 10, 10, 0);
        due("at the beginning", beginning.moments(1), 1);
        RingRods end = ring(100, 0, 10, 1, 11, 10, 0);
        due("at the end", end.moments(1), 1);
        RingRods behind = ring(100, 0, 10, 1, 13, 10, 0);
        due("behind the end", behind.moments(2), 0);
        due("at the end of the third", behind.moments(3), 1);
        // rods 0 and 1 touch, rods 2 and 3 touch when the tick ends
        RingRods both = ring(100, 0, 10, 1, 10, 10, 0, 50, 10, 1, 61, 10, 0);
        due("both", both.moments(1), 2);
    }

    private static void eachMomentOnce() {
        RingRods same = ring(100, 0, 10, 1, 11, 10, -1, 50, 10, 1, 61, 10, -1);
        due("the same half", same.moments(1), 1);
        due("two meetings in it", same.next(2), 2);
        // gaps of 1 and 2, closing by 2 and 4: one half, told in other numbers
        RingRods other = ring(100, 0, 10, 1, 11, 10, -1, 50, 10, 2, 62, 10, -2);
        due("one half and two quarters", other.moments(1), 1);
        RingRods two = ring(100, 0, 10, 1, 11, 10, -1, 50, 10, 2, 61, 10, -2);
        due("one half and one quarter", two.moments(1), 2);
        RingRods three = ring(100, 10, 5, 2, 17, 5, 0, 24, 5, -2);
        due("three at once", three.moments(1), 1);
    }

    private static void momentsOfRodsThatCameInAnotherOrder() {
        RingRods rods = ring(100, 11, 10, 0, 0, 10, 1);
        due("rod 1 is left of rod 0", rods.moments(1), 1);
        RingRods seam = ring(100, 0, 10, 0, 89, 10, 1);
        due("over the seam", seam.moments(1), 1);
        RingRods still = ring(100, 11, 10, 1, 0, 10, 0);
        due("it goes away", still.moments(3), 0);
    }

    private static void momentsAskedAgain() {
        RingRods rods = crowded();
        due("many", rods.moments(3), 55);
        due("fewer", rods.moments(1), 19);
        rods.reverse();
        due("turned round", rods.moments(1), 18);
        for (int rod = 7; rod > 0; rod--) {
            rods.removeRod(rod);
        }
        due("none", rods.moments(3), 0);
        due("next of none", rods.next(2), NONE);
        rods.undo();
        due("of two", rods.moments(1), 0);
    }

    private static void momentsWithoutMeetings() {
        due("no rod", new RingRods().moments(3), 0);
        due("one rod", ring(20, 0, 19, 9).moments(3), 0);
        due("equal speeds", ring(20, 0, 10, 9, 10, 9, 9).moments(3), 0);
    }

    private static void nextOutOfRange() {
        RingRods rods = crowded();
        int[] wrong = {LEAST, -1, 3, GREATEST};
        for (int what : wrong) {
            due("what " + what, rods.next(what), BAD_VALUE);
            due("what " + what + " without rods", new RingRods().next(what), BAD_VALUE);
        }
    }

    private static void nextIfRodsNeverMeet() {
        RingRods[] never = {new RingRods(), ring(20, 0, 1, 9), ring(20, 0, 1, 9, 1, 1, 9),
            ring(20, 0, 1, 0, 10, 9, 0)};
        for (int at = 0; at < never.length; at++) {
            for (int what = 0; what <= 2; what++) {
                due("never " + at + " what " + what, never[at].next(what), NONE);
            }
        }
    }

    private static void nextIsNow() {
        RingRods rods = ring(100, 0, 10, 1, 10, 10, 0);
        due("upper", rods.next(0), 0);
        due("lower", rods.next(1), 1);
        due("meetings", rods.next(2), 1);
        rods.pass(1);
        due("upper behind the meeting", rods.next(0), 79);
        due("lower behind the meeting", rods.next(1), 1);
        RingRods slower = ring(100, 0, 10, 0, 10, 10, 1);
        due("if the left one is slower", slower.next(0), 80);
        RingRods cluster = ring(100, 0, 10, 9, 10, 10, 9, 20, 10, 5, 50, 10, 9, 61, 10, -9);
        due("the last of three is slower", cluster.next(2), 2);
        due("now", cluster.next(0), 0);
    }

    private static void nextInLowestTerms() {
        RingRods whole = ring(100, 0, 10, 9, 28, 10, -9);
        due("18/18: upper", whole.next(0), 1);
        due("18/18: lower", whole.next(1), 1);
        RingRods part = ring(100, 0, 10, 9, 22, 10, -9);
        due("12/18: upper", part.next(0), 2);
        due("12/18: lower", part.next(1), 3);
        RingRods more = ring(100, 0, 10, 9, 37, 10, -9);
        due("27/18: upper", more.next(0), 3);
        due("27/18: lower", more.next(1), 2);
        RingRods prime = ring(100, 0, 10, 9, 29, 10, -8);
        due("19/17: upper", prime.next(0), 19);
        due("19/17: lower", prime.next(1), 17);
    }

    private static void theLatestAndTheEarliestNext() {
        RingRods latest = ring(1000, 0, 1, 0, 1, 1, 1);
        due("latest: upper", latest.next(0), 998);
        due("latest: lower", latest.next(1), 1);
        due("latest: meetings", latest.next(2), 1);
        RingRods earliest = ring(1000, 0, 1, 9, 2, 1, -9);
        due("earliest: upper", earliest.next(0), 1);
        due("earliest: lower", earliest.next(1), 18);
        RingRods greatest = ring(1000, 0, 1, -8, 1, 1, 9);
        due("greatest: upper", greatest.next(0), 998);
        due("greatest: lower", greatest.next(1), 17);
        // 1/17 is before 1/16, and 2/18 behind both
        RingRods close = ring(1000, 0, 1, 9, 2, 1, -8, 100, 1, 8, 102, 1, -8, 200, 1, 9, 203, 1, -9);
        due("close: upper", close.next(0), 1);
        due("close: lower", close.next(1), 17);
        due("close: meetings", close.next(2), 1);
    }

    private static void nextGoesOnWithTheTicks() {
        RingRods rods = ring(100, 0, 10, 5, 50, 10, 0);
        due("at first", rods.next(0), 8);
        rods.pass(7);
        due("one tick before", rods.next(0), 1);
        rods.pass(1);
        due("behind it", rods.next(0), 16);
        rods.reverse();
        due("turned round", rods.next(0), 0);
    }

    private static void forecastsBehind10000Ticks() {
        RingRods rods = ring(100, 0, 10, 5, 50, 10, -5);
        CHECKS.passLong(rods, 10000);
        due("no tick is left", rods.pass(1), Checks.NOT_POSSIBLE);
        RingRods same = ring(100, rods.rod(0, 0), 10, rods.rod(0, 2) - 100, rods.rod(1, 0), 10, rods.rod(1, 2) - 100);
        for (int ticks = 1; ticks <= 100; ticks += 33) {
            due("place behind " + ticks, rods.placeIn(0, ticks), same.placeIn(0, ticks));
            due("speed behind " + ticks, rods.speedIn(0, ticks), same.speedIn(0, ticks));
            due("meetings in " + ticks, rods.meetings(ticks, 0), same.meetings(ticks, 0));
        }
        due("moments", rods.moments(3), same.moments(3));
        due("next", rods.next(0), same.next(0));
    }

    private static void forecastsChangeNothing() {
        RingRods rods = crowded();
        for (int time = 0; time < 2; time++) {
            due("placeIn", rods.placeIn(3, 1), 9);
            due("speedIn", rods.speedIn(3, 1), 91);
            due("meetings", rods.meetings(3, 0), 16 * 55);
            due("moments", rods.moments(2), 37);
            due("next", rods.next(2), 16);
        }
        due("place", rods.rod(3, 0), 9);
        due("speed", rods.rod(3, 2), 109);
        due("way", rods.rod(3, 7), 1000000);
        due("ticks", rods.count(3), 0);
        due("meetings so far", rods.count(4), 0);
        due("impulses so far", rods.count(5), 0);
    }

    private static void countOfWhatIsNot() {
        RingRods rods = crowded();
        int[] wrong = {LEAST, -1, 12, 13, GREATEST};
        for (int what : wrong) {
            due("what " + what, rods.count(what), BAD_VALUE);
        }
    }

    private static void countOfTheEmptyRing() {
        RingRods rods = ring(1000, 0, 20, 9);
        rods.pass(1);
        rods.removeRod(0);
        int[] told = {1000, 0, 1000, 1, 0, 0, 1000, 0, 0, 0, 4, 0};
        for (int what = 0; what < told.length; what++) {
            due("count " + what, rods.count(what), told[what]);
        }
    }

    private static void countOfRings() {
        RingRods rods = crowded();
        due("L", rods.count(0), 20);
        due("rods", rods.count(1), 8);
        due("R", rods.count(2), 1);
        due("L of the longest", ring(1000).count(0), 1000);
        due("R of the longest", ring(1000, 5, 1, 0).count(2), 999);
    }

    private static void countOfSpeeds() {
        RingRods rods = ring(100);
        for (int rod = 0; rod < 8; rod++) {
            rods.addRod(10 * rod, 1, -9);
        }
        due("least sum", rods.count(6), 928);
        due("greatest squares", rods.count(7), 648);
        rods.reverse();
        due("greatest sum", rods.count(6), 1072);
        due("squares turned round", rods.count(7), 648);
        due("sum of both", crowded().count(6), 1000);
        due("squares of both", crowded().count(7), 648);
        due("sum of -1", ring(20, 0, 1, -1).count(6), 999);
    }

    private static void countOfClusters() {
        due("none", new RingRods().count(8), 0);
        due("one rod", ring(20, 0, 19, 0).count(8), 1);
        due("two that touch", ring(20, 19, 1, 0, 0, 1, 0).count(8), 1);
        due("two that don't", ring(20, 18, 1, 0, 0, 1, 0).count(8), 2);
        due("eight in one", crowded().count(8), 1);
        RingRods rods = ring(20);
        for (int rod = 0; rod < 8; rod++) {
            rods.addRod(2 * rod, 1, 0);
        }
        due("eight alone", rods.count(8), 8);
    }

    private static void countOfGaps() {
        due("without rods", new RingRods().count(9), 0);
        due("one rod", ring(1000, 7, 1, 0).count(9), 999);
        due("the least", crowded().count(9), 1);
        due("over the seam", ring(100, 90, 5, 0, 50, 5, 0).count(9), 55);
        due("in the middle", ring(100, 0, 5, 0, 70, 5, 0).count(9), 65);
    }

    private static void countOfTheHistoryAndTheText() {
        RingRods rods = new RingRods();
        for (int time = 1; time <= 61; time++) {
            rods.type('r');
            due("length behind " + time, rods.count(11), Math.min(60, time));
        }
        for (int time = 1; time <= 6; time++) {
            rods.pass(1);
            due("states behind " + time, rods.count(10), Math.min(4, time));
        }
        for (int left = 3; left >= -1; left--) {
            rods.undo();
            due("states down to " + left, rods.count(10), Math.max(0, left));
        }
    }
}
