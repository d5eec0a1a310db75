/**
 * Acts, history, snapshot and errors (promises 1 to 7 and 11 to 13): each sentence that names a
 * boundary case has a test of its own here, in the order of the document.
 */
final class BoundaryActsTest {
    private static final int UNKNOWN = Checks.UNKNOWN;
    private static final int BAD_VALUE = Checks.BAD_VALUE;
    private static final int FULL = Checks.FULL;
    private static final int NOT_POSSIBLE = Checks.NOT_POSSIBLE;
    private static final int NONE = Checks.NONE;
    private static final int LEAST = Checks.LEAST;
    private static final int GREATEST = Checks.GREATEST;

    private static final Checks CHECKS = new Checks();

    public static void main(String[] args) {
        aNewRingIsWithoutRods();
        objectsAreTheirOwn();
        anObjectIsUsedFor512Calls();
        setRingAnswersThePreviousOne();
        setRingWithARod();
        setRingAsItIs();
        addRodOutOfRange();
        addRodChecksInOrder();
        removeRodFirstAndLast();
        removeRodThatIsNone();
        setSpeedAnswersThePreviousOne();
        setSpeedChecksInOrder();
        setSpeedAsItIs();
        reverseOfNoneThatMoves();
        reverseCountsThoseThatMove();
        pass1To100();
        passUpTo10000Ticks();
        ticksAreGivenBack();
        atMost4States();
        theOldestIsDropped();
        undoOfTheEmptyHistory();
        eachActIsRecorded();
        errorsAreNotRecorded();
        noneIsNotRecorded();
        otherCallsAreNotRecorded();
        undoBringsEachActBack();
        undoLeavesTheTextAndTheSnapshot();
        undoIsNoAct();
        restoreWithoutASnapshot();
        keepOfTheFirstState();
        keepTakesThePlaceOfTheOther();
        restoreBringsAllBack();
        restoreWithAFullHistory();
        restoreOfTheSameIsRecorded();
        restoreLeavesTheText();
        restoreIsUndone();
        CHECKS.end();
    }

    private static void due(String call, long got, long want) {
        CHECKS.due(call, got, want);
    }

    private static RingRods ring(int length, int... rods) {
        return CHECKS.ring(length, rods);
    }

    private static int performed(RingRods rods, String text) {
        return CHECKS.performed(rods, text);
    }

    private static void aNewRingIsWithoutRods() {
        RingRods rods = new RingRods();
        due("L", rods.count(0), 100);
        due("rods", rods.count(1), 0);
        due("R", rods.count(2), 100);
        due("ticks", rods.count(3), 0);
        due("meetings", rods.count(4), 0);
        due("impulses", rods.count(5), 0);
        due("speeds", rods.count(6), 1000);
        due("squares", rods.count(7), 0);
        due("clusters", rods.count(8), 0);
        due("greatest gap", rods.count(9), 0);
        due("states", rods.count(10), 0);
        due("text", rods.count(11), 0);
        for (int place = 0; place < 100; place++) {
            due("cover " + place, rods.cover(place), NONE);
        }
    }

    private static void objectsAreTheirOwn() {
        RingRods one = ring(50, 0, 5, 3);
        one.type('r');
        one.keep();
        RingRods other = new RingRods();
        due("L of the other", other.count(0), 100);
        due("rods of the other", other.count(1), 0);
        due("text of the other", other.count(11), 0);
        due("snapshot of the other", other.restore(), NONE);
        other.addRod(9, 9, 9);
        other.pass(5);
        due("rods of the one", one.count(1), 1);
        due("place of the one", one.rod(0, 0), 0);
        due("ticks of the one", one.count(3), 0);
    }

    private static void anObjectIsUsedFor512Calls() {
        RingRods rods = new RingRods();
        rods.setRing(20);
        for (int rod = 0; rod < 8; rod++) {
            rods.addRod(2 * rod, 2, rod < 4 ? 9 : -9);
        }
        // they meet at first and then each 4/18 of a tick
        for (int call = 10; call <= 511; call++) {
            due("call " + call, rods.moments(3), 14);
        }
        due("call 512", rods.rod(7, 2), 91);
    }

    private static void setRingAnswersThePreviousOne() {
        RingRods rods = new RingRods();
        due("to the shortest", rods.setRing(20), 100);
        due("to the longest", rods.setRing(1000), 20);
        due("to one less", rods.setRing(999), 1000);
        due("least number", rods.setRing(LEAST), BAD_VALUE);
        due("greatest number", rods.setRing(GREATEST), BAD_VALUE);
        due("0", rods.setRing(0), BAD_VALUE);
        due("19", rods.setRing(19), BAD_VALUE);
        due("1001", rods.setRing(1001), BAD_VALUE);
        due("L", rods.count(0), 999);
    }

    private static void setRingWithARod() {
        RingRods rods = ring(100, 0, 1, 0);
        due("another length", rods.setRing(50), NOT_POSSIBLE);
        due("the same length", rods.setRing(100), NOT_POSSIBLE);
        due("too short", rods.setRing(19), BAD_VALUE);
        due("too long", rods.setRing(1001), BAD_VALUE);
        due("L", rods.count(0), 100);
        rods.removeRod(0);
        due("without the rod", rods.setRing(50), 100);
        due("place 50 is none then", rods.addRod(50, 1, 0), UNKNOWN);
        rods.undo();
        rods.undo();
        due("with the rod again", rods.setRing(50), NOT_POSSIBLE);
    }

    private static void setRingAsItIs() {
        RingRods rods = new RingRods();
        due("100", rods.setRing(100), NONE);
        due("states", rods.count(10), 0);
        rods.setRing(20);
        due("20", rods.setRing(20), NONE);
        rods.setRing(1000);
        due("1000", rods.setRing(1000), NONE);
        due("states then", rods.count(10), 2);
    }

    private static void addRodOutOfRange() {
        RingRods rods = ring(60);
        int[] places = {LEAST, -60, -1, 60, 61, 120, GREATEST};
        int[] lengths = {LEAST, -20, -1, 0, 21, 100, GREATEST};
        int[] speeds = {LEAST, -100, -10, 10, 100, GREATEST};
        for (int place : places) {
            due("place " + place, rods.addRod(place, 1, 0), UNKNOWN);
        }
        for (int length : lengths) {
            due("length " + length, rods.addRod(0, length, 0), BAD_VALUE);
        }
        for (int speed : speeds) {
            due("speed " + speed, rods.addRod(0, 1, speed), BAD_VALUE);
        }
        due("rods", rods.count(1), 0);
        due("states", rods.count(10), 1);
        due("the first number is left", rods.addRod(59, 20, -9), 0);
    }

    private static void addRodChecksInOrder() {
        RingRods full = ring(20, 0, 2, 0, 2, 2, 0, 4, 2, 0, 6, 2, 0, 8, 2, 0, 10, 2, 0, 12, 2, 0, 14, 2, 0);
        due("all four", full.addRod(20, 21, 0), UNKNOWN);
        due("place and speed", full.addRod(-1, 1, 10), UNKNOWN);
        due("place and full", full.addRod(20, 1, 0), UNKNOWN);
        due("length and full", full.addRod(16, 0, 0), BAD_VALUE);
        due("speed and full", full.addRod(16, 1, 10), BAD_VALUE);
        due("length, full and covered", full.addRod(0, 21, 0), BAD_VALUE);
        due("full and covered", full.addRod(0, 1, 0), FULL);
        due("full and no free length", full.addRod(16, 4, 0), FULL);
        due("full alone", full.addRod(16, 1, 0), FULL);
        RingRods seven = ring(20, 0, 2, 0, 2, 2, 0, 4, 2, 0, 6, 2, 0, 8, 2, 0, 10, 2, 0, 12, 2, 0);
        due("length and covered", seven.addRod(0, 0, 0), BAD_VALUE);
        due("speed and covered", seven.addRod(0, 1, -10), BAD_VALUE);
        due("covered", seven.addRod(13, 1, 0), NOT_POSSIBLE);
        due("no free length", seven.addRod(14, 6, 0), NOT_POSSIBLE);
        due("covered and no free length", seven.addRod(14, 20, 0), NOT_POSSIBLE);
        due("the last one", seven.addRod(14, 5, 0), 7);
    }

    private static void removeRodFirstAndLast() {
        RingRods rods = ring(100);
        for (int rod = 0; rod < 8; rod++) {
            rods.addRod(10 * rod, rod + 1, rod);
        }
        due("the last of eight", rods.removeRod(7), 7);
        due("the first of seven", rods.removeRod(0), 6);
        due("the first is the second that was", rods.rod(0, 1), 2);
        due("the last is the seventh that was", rods.rod(5, 1), 7);
        due("one in the middle", rods.removeRod(2), 5);
        due("before it", rods.rod(1, 1), 3);
        due("behind it", rods.rod(2, 1), 5);
        for (int left = 4; left >= 0; left--) {
            due("down to " + left, rods.removeRod(0), left);
        }
        due("R", rods.count(2), 100);
    }

    private static void removeRodThatIsNone() {
        RingRods rods = new RingRods();
        due("of none", rods.removeRod(0), UNKNOWN);
        rods.addRod(0, 1, 0);
        int[] none = {LEAST, -1, 1, 7, 8, GREATEST};
        for (int rod : none) {
            due("rod " + rod, rods.removeRod(rod), UNKNOWN);
        }
        due("rods", rods.count(1), 1);
        due("states", rods.count(10), 1);
        due("the only one", rods.removeRod(0), 0);
        due("again", rods.removeRod(0), UNKNOWN);
    }

    private static void setSpeedAnswersThePreviousOne() {
        RingRods rods = ring(100, 0, 1, -9);
        due("from -9", rods.setSpeed(0, 9), 91);
        due("from 9", rods.setSpeed(0, 0), 109);
        due("from 0", rods.setSpeed(0, -1), 100);
        due("from -1", rods.setSpeed(0, 1), 99);
        due("speed", rods.rod(0, 2), 101);
    }

    private static void setSpeedChecksInOrder() {
        RingRods rods = new RingRods();
        due("without rods", rods.setSpeed(0, 0), UNKNOWN);
        due("without rods, too fast", rods.setSpeed(0, 10), UNKNOWN);
        rods.addRod(0, 1, 0);
        int[] none = {LEAST, -1, 1, 8, GREATEST};
        for (int rod : none) {
            due("rod " + rod, rods.setSpeed(rod, 1), UNKNOWN);
            due("rod " + rod + ", too fast", rods.setSpeed(rod, 10), UNKNOWN);
        }
        int[] speeds = {LEAST, -10, 10, GREATEST};
        for (int speed : speeds) {
            due("speed " + speed, rods.setSpeed(0, speed), BAD_VALUE);
        }
        due("speed", rods.rod(0, 2), 100);
        due("states", rods.count(10), 1);
    }

    private static void setSpeedAsItIs() {
        for (int speed : new int[] {-9, 0, 9}) {
            RingRods rods = ring(100, 0, 1, speed);
            due("speed " + speed, rods.setSpeed(0, speed), NONE);
            due("states", rods.count(10), 1);
        }
    }

    private static void reverseOfNoneThatMoves() {
        RingRods rods = new RingRods();
        due("without rods", rods.reverse(), NONE);
        rods.addRod(0, 1, 0);
        rods.addRod(1, 1, 0);
        due("with rods that stand", rods.reverse(), NONE);
        due("states", rods.count(10), 2);
        rods.setSpeed(1, -1);
        due("with one that moves", rods.reverse(), 1);
        due("states then", rods.count(10), 4);
    }

    private static void reverseCountsThoseThatMove() {
        RingRods rods = ring(100);
        for (int rod = 0; rod < 8; rod++) {
            rods.addRod(10 * rod, 1, rod - 9);
        }
        due("all eight", rods.reverse(), 8);
        due("the fastest", rods.rod(0, 2), 109);
        due("the slowest", rods.rod(7, 2), 102);
        rods.setSpeed(3, 0);
        due("all but one", rods.reverse(), 7);
        due("it stands", rods.rod(3, 2), 100);
        due("the slowest to the left", rods.rod(0, 2), 91);
    }

    private static void pass1To100() {
        RingRods rods = ring(100, 0, 1, 1);
        int[] wrong = {LEAST, -1, 0, 101, 10001, GREATEST};
        for (int ticks : wrong) {
            due("pass " + ticks, rods.pass(ticks), BAD_VALUE);
        }
        due("place", rods.rod(0, 0), 0);
        due("states", rods.count(10), 1);
        due("pass 1", rods.pass(1), 0);
        due("ticks", rods.count(3), 1);
        due("pass 100", rods.pass(100), 0);
        due("ticks then", rods.count(3), 101);
        due("place then", rods.rod(0, 0), 1);
    }

    private static void passUpTo10000Ticks() {
        RingRods rods = new RingRods();
        CHECKS.passLong(rods, 9901);
        due("100 are too many", rods.pass(100), NOT_POSSIBLE);
        due("ticks", rods.count(3), 9901);
        due("out of range goes first", rods.pass(101), BAD_VALUE);
        due("99 are just so", rods.pass(99), 0);
        due("ticks then", rods.count(3), 10000);
        due("1 is too many", rods.pass(1), NOT_POSSIBLE);
        due("100 are too many then", rods.pass(100), NOT_POSSIBLE);
        due("0 is out of range", rods.pass(0), BAD_VALUE);
        due("101 is out of range", rods.pass(101), BAD_VALUE);
        due("states", rods.count(10), 4);
    }

    private static void ticksAreGivenBack() {
        RingRods rods = new RingRods();
        rods.keep();
        CHECKS.passLong(rods, 10000);
        due("no more", rods.pass(1), NOT_POSSIBLE);
        due("undo", rods.undo(), 3);
        due("ticks behind undo", rods.count(3), 9900);
        due("as many again", rods.pass(100), 0);
        due("no more again", rods.pass(1), NOT_POSSIBLE);
        due("restore", rods.restore(), 0);
        due("all again", rods.pass(100), 0);
    }

    private static void atMost4States() {
        RingRods rods = new RingRods();
        for (int act = 1; act <= 9; act++) {
            rods.setRing(100 + act);
            due("states behind act " + act, rods.count(10), Math.min(4, act));
        }
    }

    private static void theOldestIsDropped() {
        RingRods rods = new RingRods();
        for (int act = 1; act <= 5; act++) {
            rods.setRing(100 + act);
        }
        for (int left = 3; left >= 0; left--) {
            due("undo to " + left, rods.undo(), left);
            due("L then", rods.count(0), 101 + left);
        }
        due("the oldest", rods.undo(), NONE);
        due("L", rods.count(0), 101);
        rods.setRing(20);
        due("undo of one more", rods.undo(), 0);
        due("L of one more", rods.count(0), 101);
    }

    private static void undoOfTheEmptyHistory() {
        RingRods rods = new RingRods();
        due("at first", rods.undo(), NONE);
        rods.addRod(0, 1, 0);
        due("of one act", rods.undo(), 0);
        due("again", rods.undo(), NONE);
        due("rods", rods.count(1), 0);
        due("states", rods.count(10), 0);
    }

    private static void eachActIsRecorded() {
        RingRods rods = new RingRods();
        rods.keep();
        CHECKS.type(rods, "r");
        due("setRing", rods.setRing(50), 100);
        due("states", rods.count(10), 1);
        due("addRod", rods.addRod(0, 1, 2), 0);
        due("states", rods.count(10), 2);
        due("setSpeed", rods.setSpeed(0, 3), 102);
        due("states", rods.count(10), 3);
        due("reverse", rods.reverse(), 1);
        due("states", rods.count(10), 4);
        rods.undo();
        due("pass", rods.pass(1), 0);
        due("states", rods.count(10), 4);
        rods.undo();
        due("perform", rods.perform(), 0);
        due("states", rods.count(10), 4);
        rods.undo();
        due("removeRod", rods.removeRod(0), 0);
        due("states", rods.count(10), 4);
        rods.undo();
        due("restore", rods.restore(), 0);
        due("states", rods.count(10), 4);
    }

    private static void errorsAreNotRecorded() {
        RingRods rods = ring(100, 0, 1, 1);
        rods.type('x');
        int[] answers = {rods.setRing(19), rods.setRing(50), rods.addRod(100, 1, 0), rods.addRod(1, 0, 0),
            rods.addRod(0, 1, 0), rods.removeRod(1), rods.setSpeed(1, 0), rods.setSpeed(0, 10), rods.pass(0),
            rods.perform(), performed(rods, "s1=0")};
        int[] errors = {BAD_VALUE, NOT_POSSIBLE, UNKNOWN, BAD_VALUE,
            NOT_POSSIBLE, UNKNOWN, UNKNOWN, BAD_VALUE, BAD_VALUE,
            -100, UNKNOWN};
        for (int at = 0; at < errors.length; at++) {
            due("error " + at, answers[at], errors[at]);
        }
        due("states", rods.count(10), 1);
        due("undo is of the rod", rods.undo(), 0);
        due("rods", rods.count(1), 0);
    }

    private static void noneIsNotRecorded() {
        RingRods rods = new RingRods();
        due("setRing", rods.setRing(100), NONE);
        due("reverse", rods.reverse(), NONE);
        due("restore", rods.restore(), NONE);
        due("undo", rods.undo(), NONE);
        due("states", rods.count(10), 0);
        rods.addRod(0, 1, 0);
        due("setSpeed", rods.setSpeed(0, 0), NONE);
        due("states then", rods.count(10), 1);
    }

    private static void otherCallsAreNotRecorded() {
        RingRods rods = ring(100, 0, 1, 1);
        rods.type('r');
        rods.keep();
        rods.clearText();
        rods.rod(0, 0);
        rods.cover(0);
        rods.placeIn(0, 100);
        rods.speedIn(0, 100);
        rods.meetings(100, 0);
        rods.moments(3);
        rods.next(0);
        rods.count(0);
        due("states", rods.count(10), 1);
        due("place", rods.rod(0, 0), 0);
        due("ticks", rods.count(3), 0);
    }

    private static void undoBringsEachActBack() {
        RingRods rods = ring(100, 10, 5, 3, 20, 5, -3);
        rods.removeRod(0);
        rods.undo();
        due("removeRod: rods", rods.count(1), 2);
        due("removeRod: place of 0", rods.rod(0, 0), 10);
        due("removeRod: place of 1", rods.rod(1, 0), 20);
        rods.pass(1);
        rods.undo();
        due("pass: place", rods.rod(0, 0), 10);
        due("pass: speed", rods.rod(0, 2), 103);
        due("pass: way", rods.rod(0, 7), 1000000);
        due("pass: ticks", rods.count(3), 0);
        due("pass: meetings", rods.count(4), 0);
        due("pass: impulses", rods.count(5), 0);
        rods.setSpeed(0, 9);
        rods.undo();
        due("setSpeed: speed", rods.rod(0, 2), 103);
        rods.reverse();
        rods.undo();
        due("reverse: speed", rods.rod(1, 2), 97);
        rods.addRod(50, 5, 0);
        rods.undo();
        due("addRod: rods", rods.count(1), 2);
        due("addRod: piece", rods.cover(50), NONE);
        due("addRod: again", rods.addRod(50, 5, 0), 2);
    }

    private static void undoLeavesTheTextAndTheSnapshot() {
        RingRods rods = new RingRods();
        rods.setRing(50);
        CHECKS.type(rods, "p2");
        rods.keep();
        due("undo", rods.undo(), 0);
        due("length of the text", rods.count(11), 2);
        due("the text", rods.perform(), 0);
        due("ticks of the text", rods.count(3), 2);
        due("the snapshot", rods.restore(), 0);
        due("L of the snapshot", rods.count(0), 50);
    }

    private static void undoIsNoAct() {
        RingRods rods = new RingRods();
        rods.setRing(20);
        rods.setRing(30);
        due("undo", rods.undo(), 1);
        due("undo again goes further", rods.undo(), 0);
        due("L", rods.count(0), 100);
        due("nothing to undo", rods.undo(), NONE);
    }

    private static void restoreWithoutASnapshot() {
        RingRods rods = ring(50, 0, 1, 1);
        rods.pass(3);
        due("restore", rods.restore(), NONE);
        due("ticks", rods.count(3), 3);
        due("states", rods.count(10), 3);
        rods.keep();
        due("restore then", rods.restore(), 3);
    }

    private static void keepOfTheFirstState() {
        RingRods rods = new RingRods();
        due("keep", rods.keep(), 0);
        rods.setRing(20);
        rods.addRod(0, 1, 9);
        rods.pass(7);
        due("restore", rods.restore(), 0);
        due("L", rods.count(0), 100);
        due("rods", rods.count(1), 0);
        due("rod 0", rods.rod(0, 0), UNKNOWN);
        due("number of a new one", rods.addRod(99, 1, 0), 0);
        due("way of a new one", rods.rod(0, 7), 1000000);
    }

    private static void keepTakesThePlaceOfTheOther() {
        RingRods rods = ring(100, 0, 1, 1);
        due("first", rods.keep(), 0);
        rods.pass(5);
        due("second", rods.keep(), 5);
        rods.pass(5);
        due("restore", rods.restore(), 5);
        due("place", rods.rod(0, 0), 5);
        CHECKS.passLong(rods, 9995);
        due("with the most ticks", rods.keep(), 10000);
        rods.undo();
        due("restore of that", rods.restore(), 10000);
    }

    private static void restoreBringsAllBack() {
        RingRods rods = ring(200, 190, 20, 9, 30, 1, -9, 60, 5, 0);
        rods.pass(13);
        int[] counts = new int[10];
        int[][] told = new int[3][8];
        for (int what = 0; what < 10; what++) {
            counts[what] = rods.count(what);
        }
        for (int rod = 0; rod < 3; rod++) {
            for (int what = 0; what < 8; what++) {
                told[rod][what] = rods.rod(rod, what);
            }
        }
        rods.keep();
        rods.pass(50);
        rods.reverse();
        rods.removeRod(1);
        rods.removeRod(1);
        rods.removeRod(0);
        rods.setRing(77);
        due("restore", rods.restore(), 13);
        for (int what = 0; what < 10; what++) {
            due("count " + what, rods.count(what), counts[what]);
        }
        for (int rod = 0; rod < 3; rod++) {
            for (int what = 0; what < 8; what++) {
                due("rod " + rod + " " + what, rods.rod(rod, what), told[rod][what]);
            }
        }
    }

    private static void restoreWithAFullHistory() {
        RingRods rods = new RingRods();
        rods.keep();
        for (int length = 20; length < 24; length++) {
            rods.setRing(length);
        }
        due("states", rods.count(10), 4);
        due("restore", rods.restore(), 0);
        due("states then", rods.count(10), 4);
        for (int left = 3; left >= 0; left--) {
            due("undo to " + left, rods.undo(), left);
            due("L then", rods.count(0), 20 + left);
        }
        due("the first is dropped", rods.undo(), NONE);
    }

    private static void restoreOfTheSameIsRecorded() {
        RingRods rods = new RingRods();
        rods.keep();
        due("restore", rods.restore(), 0);
        due("states", rods.count(10), 1);
        due("again", rods.restore(), 0);
        due("states then", rods.count(10), 2);
        due("undo", rods.undo(), 1);
    }

    private static void restoreLeavesTheText() {
        RingRods rods = new RingRods();
        CHECKS.type(rods, "p5");
        rods.keep();
        rods.clearText();
        CHECKS.type(rods, "p7;r");
        due("restore", rods.restore(), 0);
        due("length", rods.count(11), 4);
        due("perform", rods.perform(), 0);
        due("ticks", rods.count(3), 7);
    }

    private static void restoreIsUndone() {
        RingRods rods = ring(100, 0, 1, 1);
        rods.keep();
        rods.pass(9);
        due("restore", rods.restore(), 0);
        due("undo", rods.undo(), 2);
        due("ticks", rods.count(3), 9);
        due("place", rods.rod(0, 0), 9);
        due("the snapshot stays", rods.restore(), 0);
        due("place of it", rods.rod(0, 0), 0);
        rods.pass(3);
        due("and stays as it was", rods.restore(), 0);
        due("place as it was", rods.rod(0, 0), 0);
    }
}
