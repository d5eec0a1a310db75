/**
 * Texts and their orders (promises 8 to 10): each sentence that names a boundary case has a test of
 * its own here, in the order of the document.
 */
final class BoundaryTextTest {
    private static final int UNKNOWN = Checks.UNKNOWN;
    private static final int FULL = Checks.FULL;
    private static final int NOT_POSSIBLE = Checks.NOT_POSSIBLE;
    private static final int NONE = Checks.NONE;

    private static final String NINETEEN = "p1;p1;p1;p1;p1;p1;p1;p1;p1;p1;p1;p1;p1;p1;p1;p1;p1;p1;p1";

    private static final Checks CHECKS = new Checks();

    public static void main(String[] args) {
        theTextIsEmptyAtFirst();
        atMost60Characters();
        anyCharacterIsTyped();
        clearTextEmptiesIt();
        clearTextOfAFullText();
        oneOrMoreOrders();
        semicolonsStandBetweenTwo();
        ticksAreOneOrTwoDigits();
        theFirstDigitIsNot0();
        reverseIsOneLetter();
        rodIsOneDigit();
        speedIsADigitOrMinusAndADigit();
        signsBesideTheAllowedOnes();
        signsFarFromTheAllowedOnes();
        faultIsTheFirstOne();
        faultIsTheLengthIfItEndsTooEarly();
        faultsOf60Characters();
        faultsGoAheadOfErrors();
        aFaultIsAnError();
        greatestAndLeastOrders();
        unknownRodsOfOrders();
        tooManyTicksOfOrders();
        theFirstErrorCounts();
        allOrNone();
        nothingDifferentIsDoneAsWell();
        ordersWithoutRods();
        meetingsOfAllTicks();
        theTextStays();
        performIsOneAct();
        theMostOrders();
        CHECKS.end();
    }

    private static void due(String call, long got, long want) {
        CHECKS.due(call, got, want);
    }

    private static RingRods ring(int length, int... rods) {
        return CHECKS.ring(length, rods);
    }

    private static int performed(RingRods rods, String text) {
        return CHECKS.performed(rods, text);
    }

    private static void faultOf(String text, int fault) {
        RingRods rods = ring(100, 0, 10, 1, 50, 10, 0);
        due("perform of '" + text + "'", performed(rods, text), -100 - fault);
        due("ticks behind '" + text + "'", rods.count(3), 0);
        due("states behind '" + text + "'", rods.count(10), 2);
        due("length of '" + text + "'", rods.count(11), text.length());
    }

    private static void noFaultOf(String text) {
        RingRods rods = ring(100, 0, 10, 1, 50, 10, 0);
        due("perform of '" + text + "' is done", performed(rods, text) >= 0 ? 1 : 0, 1);
        due("states behind '" + text + "'", rods.count(10), 3);
    }

    private static void theTextIsEmptyAtFirst() {
        RingRods rods = new RingRods();
        due("length", rods.count(11), 0);
        due("perform", rods.perform(), -100);
        due("clearText", rods.clearText(), 0);
        due("the first sign", rods.type('r'), 1);
    }

    private static void atMost60Characters() {
        RingRods rods = new RingRods();
        for (int length = 1; length <= 59; length++) {
            rods.type(NINETEEN.charAt((length - 1) % 56));
        }
        due("the 60th", rods.type('p'), 60);
        due("the 61st", rods.type('p'), FULL);
        due("the 61st again", rods.type((char) 0), FULL);
        due("length", rods.count(11), 60);
        // 19 orders are 56 signs, three more stand behind them; a sign too many is not typed
        RingRods full = new RingRods();
        CHECKS.type(full, NINETEEN + ";p10");
        due("one sign too many", full.type('x'), FULL);
        due("perform without it", full.perform(), 0);
        due("ticks", full.count(3), 29);
    }

    private static void anyCharacterIsTyped() {
        RingRods rods = new RingRods();
        char[] signs = {0, 1, ' ', '\n', 127, 128, 255, 256, 0x0660, 0xd800, 0xfffe, 0xffff};
        for (int at = 0; at < signs.length; at++) {
            due("type " + (int) signs[at], rods.type(signs[at]), at + 1);
        }
        due("perform of them", rods.perform(), -100);
        due("clearText", rods.clearText(), signs.length);
    }

    private static void clearTextEmptiesIt() {
        RingRods rods = new RingRods();
        rods.type('x');
        due("of one sign", rods.clearText(), 1);
        due("of none", rods.clearText(), 0);
        due("length", rods.count(11), 0);
        due("what is typed then", performed(rods, "p7"), 0);
        due("ticks", rods.count(3), 7);
        rods.clearText();
        rods.type('p');
        due("nothing is left behind it", rods.perform(), -101);
    }

    private static void clearTextOfAFullText() {
        RingRods rods = new RingRods();
        CHECKS.type(rods, NINETEEN + ";p1x");
        due("full", rods.type('x'), FULL);
        due("clearText", rods.clearText(), 60);
        due("the first sign then", rods.type('r'), 1);
        due("perform then", rods.perform(), 0);
    }

    private static void oneOrMoreOrders() {
        noFaultOf("r");
        noFaultOf("p1");
        noFaultOf("s0=0");
        noFaultOf("r;p1");
        noFaultOf("s1=-9;s0=9;r;p99");
        faultOf("", 0);
        faultOf("x", 0);
    }

    private static void semicolonsStandBetweenTwo() {
        faultOf(";", 0);
        faultOf(";r", 0);
        faultOf("r;", 2);
        faultOf("r;;r", 2);
        faultOf("r r", 1);
        faultOf("rr", 1);
        faultOf("rp1", 1);
        faultOf("r,r", 1);
        faultOf("p1;", 3);
        faultOf("p12;", 4);
        faultOf("p12;;", 4);
        faultOf("s0=1;", 5);
        faultOf("s0=-1;", 6);
        faultOf("s0=1r", 4);
        faultOf("s0=-1r", 5);
        faultOf("p1r", 2);
        faultOf("p12r", 3);
    }

    private static void ticksAreOneOrTwoDigits() {
        noFaultOf("p1");
        noFaultOf("p9");
        noFaultOf("p10");
        noFaultOf("p99");
        faultOf("p", 1);
        faultOf("p;", 1);
        faultOf("p100", 3);
        faultOf("p999", 3);
        faultOf("p-1", 1);
        faultOf("p1-", 2);
        faultOf("p1=", 2);
        RingRods rods = ring(20, 0, 1, 1);
        for (int ticks = 1; ticks <= 99; ticks++) {
            rods = ticks % 50 == 0 ? ring(20, 0, 1, 1) : rods;
            int before = rods.count(3);
            performed(rods, "p" + ticks);
            due("ticks of p" + ticks, rods.count(3) - before, ticks);
        }
    }

    private static void theFirstDigitIsNot0() {
        faultOf("p0", 1);
        faultOf("p00", 1);
        faultOf("p01", 1);
        faultOf("p0;", 1);
        faultOf("r;p0", 3);
        noFaultOf("p20");
    }

    private static void reverseIsOneLetter() {
        noFaultOf("r");
        noFaultOf("r;r");
        faultOf("r1", 1);
        faultOf("r=", 1);
        faultOf("R", 0);
    }

    private static void rodIsOneDigit() {
        faultOf("s", 1);
        faultOf("s;", 1);
        faultOf("s=", 1);
        faultOf("s-1=0", 1);
        faultOf("s0", 2);
        faultOf("s0;", 2);
        faultOf("s00=1", 2);
        faultOf("s10=1", 2);
        faultOf("s0-1", 2);
        noFaultOf("s0=1");
        noFaultOf("s1=1");
        // any digit may stand there: that there is no such rod is no fault of the text
        RingRods rods = ring(100, 0, 1, 0);
        for (int rod = 1; rod <= 9; rod++) {
            due("rod " + rod, performed(rods, "s" + rod + "=0"), UNKNOWN);
        }
    }

    private static void speedIsADigitOrMinusAndADigit() {
        for (int speed = -9; speed <= 9; speed++) {
            RingRods rods = ring(100, 0, 10, 1);
            due("perform of " + speed, performed(rods, "s0=" + speed), 0);
            due("speed " + speed, rods.rod(0, 2), 100 + speed);
        }
        faultOf("s0=", 3);
        faultOf("s0=;", 3);
        faultOf("s0==", 3);
        faultOf("s0=+1", 3);
        faultOf("s0=-", 4);
        faultOf("s0=-;", 4);
        faultOf("s0=-0", 4);
        faultOf("s0=--1", 4);
        faultOf("s0=1-", 4);
        faultOf("s0=10", 4);
        faultOf("s0=00", 4);
        faultOf("s0=-10", 5);
        faultOf("s0=-1-", 5);
    }

    private static void signsBesideTheAllowedOnes() {
        faultOf("o", 0);
        faultOf("q", 0);
        faultOf("t", 0);
        faultOf("p/", 1);
        faultOf("p:", 1);
        faultOf("p1/", 2);
        faultOf("p1:", 2);
        faultOf("p1<", 2);
        faultOf("p12:", 3);
        faultOf("p12<", 3);
        faultOf("r:", 1);
        faultOf("r<", 1);
        faultOf("s/=1", 1);
        faultOf("s:=1", 1);
        faultOf("s0<", 2);
        faultOf("s0>", 2);
        faultOf("s0=/", 3);
        faultOf("s0=:", 3);
        faultOf("s0=,", 3);
        faultOf("s0=.", 3);
        faultOf("s0=-/", 4);
        faultOf("s0=-:", 4);
    }

    private static void signsFarFromTheAllowedOnes() {
        faultOf("\u0000", 0);
        faultOf("p\u0000", 1);
        faultOf("p1\u0000", 2);
        faultOf("p12\u0000", 3);
        faultOf(" p1", 0);
        faultOf("p1 ", 2);
        faultOf("p1\n", 2);
        // the same in their last eight bits, and digits of other alphabets
        faultOf("\u0170", 0);
        faultOf("\uff70", 0);
        faultOf("p\u0131", 1);
        faultOf("p\u0661", 1);
        faultOf("p1\uff11", 2);
        faultOf("r\u013b", 1);
        faultOf("s\u0130=1", 1);
        faultOf("s0\u013d1", 2);
        faultOf("s0=\u2212", 3);
        faultOf("s0=\uffff", 3);
    }

    private static void faultIsTheFirstOne() {
        faultOf("xx", 0);
        faultOf("p0;p0", 1);
        faultOf("p1;s0=-0;x", 7);
        faultOf("r;r;r;r;rr;x", 9);
        faultOf("p1;p1;;", 6);
    }

    private static void faultIsTheLengthIfItEndsTooEarly() {
        faultOf("", 0);
        faultOf("p", 1);
        faultOf("r;", 2);
        faultOf("r;p", 3);
        faultOf("p12;s3=-4;r;", 12);
        faultOf("p12;s3=-4;r;s1=", 15);
        faultOf("p12;s3=-4;r;s1=-", 16);
    }

    private static void faultsOf60Characters() {
        due("signs", (NINETEEN + ";p1;").length(), 60);
        faultOf(NINETEEN + ";p1;", 60);
        faultOf(NINETEEN + ";p1x", 59);
        faultOf(NINETEEN + ";p0x", 58);
        faultOf(NINETEEN + ";s0=", 60);
        faultOf(NINETEEN + ";rrr", 58);
        faultOf("x" + NINETEEN + ";p1", 0);
        noFaultOf(NINETEEN + ";p12");
        noFaultOf(NINETEEN + ";p1");
    }

    private static void faultsGoAheadOfErrors() {
        faultOf("s9=1;p0", 6);
        faultOf("s9=1;", 5);
        RingRods late = new RingRods();
        CHECKS.passLong(late, 10000);
        due("too many ticks and a fault", performed(late, "p1;x"), -103);
        due("too many ticks alone", performed(late, "p1"), NOT_POSSIBLE);
    }

    private static void aFaultIsAnError() {
        RingRods rods = ring(100, 0, 10, 1);
        due("fault", performed(rods, "p1;s0=5;r;"), -110);
        due("place", rods.rod(0, 0), 0);
        due("speed", rods.rod(0, 2), 101);
        due("states", rods.count(10), 1);
        due("undo goes to before the rod", rods.undo(), 0);
        due("rods", rods.count(1), 0);
    }

    private static void greatestAndLeastOrders() {
        RingRods rods = ring(1000, 0, 1, 9);
        due("least ticks", performed(rods, "p1"), 0);
        due("place behind them", rods.rod(0, 0), 9);
        due("greatest ticks", performed(rods, "p99"), 0);
        due("place behind those", rods.rod(0, 0), 900);
        due("least speed", performed(rods, "s0=-9;p1"), 0);
        due("place to the left", rods.rod(0, 0), 891);
        due("greatest speed", performed(rods, "s0=9;p1"), 0);
        due("place to the right", rods.rod(0, 0), 900);
    }

    private static void unknownRodsOfOrders() {
        due("without rods", performed(new RingRods(), "s0=1"), UNKNOWN);
        RingRods one = ring(100, 0, 10, 1);
        due("the only one", performed(one, "s0=2"), 0);
        due("one too great", performed(one, "s1=2"), UNKNOWN);
        RingRods eight = ring(100);
        for (int rod = 0; rod < 8; rod++) {
            eight.addRod(10 * rod, 1, 0);
        }
        due("the eighth", performed(eight, "s7=-1"), 0);
        due("its speed", eight.rod(7, 2), 99);
        due("the ninth", performed(eight, "s8=1"), UNKNOWN);
        due("the tenth", performed(eight, "s9=1"), UNKNOWN);
        eight.removeRod(0);
        due("the eighth that was", performed(eight, "s7=1"), UNKNOWN);
        due("the seventh", performed(eight, "s6=5"), 0);
    }

    private static void tooManyTicksOfOrders() {
        RingRods rods = new RingRods();
        CHECKS.passLong(rods, 9900);
        due("10001 at once", performed(rods, "p99;p2"), NOT_POSSIBLE);
        due("10001 in the middle", performed(rods, "p99;p2;r"), NOT_POSSIBLE);
        due("10000 just so", performed(rods, "p99;p1"), 0);
        due("ticks", rods.count(3), 10000);
        due("one more", performed(rods, "p1"), NOT_POSSIBLE);
        due("without ticks", performed(rods, "r"), 0);
        due("ticks then", rods.count(3), 10000);
    }

    private static void theFirstErrorCounts() {
        RingRods rods = ring(100, 0, 10, 1);
        CHECKS.passLong(rods, 9999);
        due("ticks first", performed(rods, "p2;s1=1"), NOT_POSSIBLE);
        due("rod first", performed(rods, "s1=1;p2"), UNKNOWN);
        due("ticks first, at the second", performed(rods, "p1;p1;s1=1"), NOT_POSSIBLE);
        due("rod first, behind what is possible", performed(rods, "p1;s1=1;p1"), UNKNOWN);
    }

    private static void allOrNone() {
        RingRods rods = ring(100, 0, 10, 3, 13, 10, -3);
        rods.keep();
        due("the last one can't be done", performed(rods, "p1;r;s0=7;p5;s2=0"), UNKNOWN);
        due("place", rods.rod(0, 0), 0);
        due("speed", rods.rod(0, 2), 103);
        due("way", rods.rod(0, 7), 1000000);
        due("ticks", rods.count(3), 0);
        due("meetings", rods.count(4), 0);
        due("impulses", rods.count(5), 0);
        due("states", rods.count(10), 2);
        due("snapshot", rods.restore(), 0);
        due("without the last one", performed(rods, "p1;r;s0=7;p5"), 2);
        due("all are done", rods.count(3), 6);
    }

    private static void nothingDifferentIsDoneAsWell() {
        RingRods rods = ring(100, 0, 10, 0);
        due("reverse of none that moves", rods.reverse(), NONE);
        due("its order", performed(rods, "r"), 0);
        due("is recorded", rods.count(10), 2);
        due("speed as it is", rods.setSpeed(0, 0), NONE);
        due("its order", performed(rods, "s0=0"), 0);
        due("is recorded too", rods.count(10), 3);
        due("in between", performed(rods, "r;s0=0;p1;r"), 0);
        due("is done", rods.count(3), 1);
    }

    private static void ordersWithoutRods() {
        RingRods rods = new RingRods();
        due("pass", performed(rods, "p99"), 0);
        due("ticks", rods.count(3), 99);
        due("reverse", performed(rods, "r"), 0);
        due("states", rods.count(10), 2);
        due("speed", performed(rods, "p1;s0=1"), UNKNOWN);
        due("ticks stay", rods.count(3), 99);
    }

    private static void meetingsOfAllTicks() {
        RingRods rods = ring(100, 0, 10, 5, 50, 10, 0);
        due("none", performed(rods, "p7"), 0);
        due("one at the end", performed(rods, "p1"), 1);
        due("turned round, once more at the beginning", performed(rods, "r;p1"), 1);
        due("there and back", performed(rods, "p7;r;p8;r;p1"), 2);
        due("so far", rods.count(4), 4);
        due("impulses so far", rods.count(5), 20);
        RingRods many = ring(20, 0, 10, 9, 10, 9, -9);
        due("many", performed(many, "p99;p99"), 198 * 18 + 1);
    }

    private static void theTextStays() {
        RingRods rods = ring(100, 0, 10, 1);
        CHECKS.type(rods, "p3");
        for (int time = 1; time <= 3; time++) {
            due("perform " + time, rods.perform(), 0);
            due("length " + time, rods.count(11), 2);
            due("ticks " + time, rods.count(3), 3 * time);
        }
        due("one more sign", rods.type('0'), 3);
        due("perform of both", rods.perform(), 0);
        due("ticks of both", rods.count(3), 39);
        due("a fault behind it", rods.type('0'), 4);
        due("perform of that", rods.perform(), -103);
        due("length of that", rods.count(11), 4);
        due("undo", rods.undo(), 3);
        due("the text is no state", rods.count(11), 4);
    }

    private static void performIsOneAct() {
        RingRods rods = ring(100, 0, 10, 1);
        due("states before", rods.count(10), 1);
        due("perform", performed(rods, "p1;p2;r;p3;s0=9;p4"), 0);
        due("states", rods.count(10), 2);
        due("place", rods.rod(0, 0), 36);
        due("undo", rods.undo(), 1);
        due("place then", rods.rod(0, 0), 0);
        due("speed then", rods.rod(0, 2), 101);
        due("ticks then", rods.count(3), 0);
    }

    private static void theMostOrders() {
        RingRods rods = ring(100, 0, 10, 1);
        StringBuilder turns = new StringBuilder("r");
        for (int turn = 2; turn <= 30; turn++) {
            turns.append(";r");
        }
        due("30 turns are 59 signs", turns.length(), 59);
        due("30 turns", performed(rods, turns.toString()), 0);
        due("speed behind an even number", rods.rod(0, 2), 101);
        due("29 turns", performed(rods, turns.substring(2)), 0);
        due("speed behind an odd number", rods.rod(0, 2), 99);
        due("30 turns and a semicolon", performed(rods, turns + ";"), -160);
        due("a digit too many", performed(rods, "p99;p99;p99;p99;p99;p99;p99;p99;p99;p99;p99;p99;p99;p99;p999"), -159);
        due("15 times 99", performed(rods, "p99;p99;p99;p99;p99;p99;p99;p99;p99;p99;p99;p99;p99;p99;p99"), 0);
        due("ticks", rods.count(3), 1485);
    }
}
