/** Each promise of the document by itself: ordinary inputs, edges, wrong inputs. */
final class PromiseTest {
    private static final int UNKNOWN = Checks.UNKNOWN;
    private static final int BAD_VALUE = Checks.BAD_VALUE;
    private static final int FULL = Checks.FULL;
    private static final int NOT_POSSIBLE = Checks.NOT_POSSIBLE;
    private static final int NONE = Checks.NONE;
    private static final int LEAST = Checks.LEAST;
    private static final int GREATEST = Checks.GREATEST;

    private static final Checks CHECKS = new Checks();

    public static void main(String[] args) {
        constants();
        newObject();
        setRing();
        addRod();
        addRodFaults();
        removeRod();
        setSpeed();
        reverse();
        pass();
        passFewPlaces();
        passManyAtOnce();
        allGoesBack();
        mostTicks();
        type();
        clearText();
        perform();
        performAllOrNothing();
        undo();
        undoBringsAllBack();
        keepAndRestore();
        rod();
        clusters();
        cover();
        placeIn();
        speedIn();
        meetings();
        moments();
        next();
        count();
        CHECKS.end();
    }

    private static void due(String call, long got, long want) {
        CHECKS.due(call, got, want);
    }

    private static RingRods ring(int length, int... rods) {
        return CHECKS.ring(length, rods);
    }

    private static int performed(RingRods rods, String text) {
        return CHECKS.performed(rods, text);
    }

    private static void constants() {
        due("UNKNOWN", RingRods.UNKNOWN, UNKNOWN);
        due("BAD_VALUE", RingRods.BAD_VALUE, BAD_VALUE);
        due("FULL", RingRods.FULL, FULL);
        due("NOT_POSSIBLE", RingRods.NOT_POSSIBLE, NOT_POSSIBLE);
        due("NONE", RingRods.NONE, NONE);
    }

    private static void newObject() {
        RingRods rods = new RingRods();
        int[] told = {100, 0, 100, 0, 0, 0, 1000, 0, 0, 0, 0, 0};
        for (int what = 0; what < told.length; what++) {
            due("new: count " + what, rods.count(what), told[what]);
        }
        due("new: undo", rods.undo(), NONE);
        due("new: restore", rods.restore(), NONE);
        due("new: reverse", rods.reverse(), NONE);
        due("new: next", rods.next(0), NONE);
        due("new: rod", rods.rod(0, 0), UNKNOWN);
        due("new: cover", rods.cover(99), NONE);
        due("new: cover 100", rods.cover(100), UNKNOWN);
        due("new: meetings", rods.meetings(100, 0), 0);
        due("new: impulses", rods.meetings(100, 1), 0);
        due("new: moments", rods.moments(3), 0);
        due("new: perform", rods.perform(), -100);
        due("new: clearText", rods.clearText(), 0);
        due("new: pass", rods.pass(7), 0);
        due("new: ticks", rods.count(3), 7);
    }

    private static void setRing() {
        RingRods rods = new RingRods();
        due("setRing 19", rods.setRing(19), BAD_VALUE);
        due("setRing 1001", rods.setRing(1001), BAD_VALUE);
        due("setRing least", rods.setRing(LEAST), BAD_VALUE);
        due("setRing greatest", rods.setRing(GREATEST), BAD_VALUE);
        due("setRing as it is", rods.setRing(100), NONE);
        due("none recorded", rods.count(10), 0);
        due("setRing 20", rods.setRing(20), 100);
        due("setRing 1000", rods.setRing(1000), 20);
        due("L", rods.count(0), 1000);
        due("R", rods.count(2), 1000);
        due("recorded", rods.count(10), 2);
        rods.addRod(999, 1, 0);
        due("setRing with a rod", rods.setRing(100), NOT_POSSIBLE);
        due("setRing as it is, with a rod", rods.setRing(1000), NOT_POSSIBLE);
        due("setRing out of range, with a rod", rods.setRing(0), BAD_VALUE);
        rods.removeRod(0);
        due("setRing without the rod", rods.setRing(100), 1000);
    }

    private static void addRod() {
        RingRods rods = ring(100, 95, 10, -9);
        due("covers the last piece", rods.cover(99), 0);
        due("covers piece 4", rods.cover(4), 0);
        due("does not cover piece 5", rods.cover(5), NONE);
        due("does not cover piece 94", rods.cover(94), NONE);
        due("addRod on its right end", rods.addRod(4, 1, 0), NOT_POSSIBLE);
        due("addRod on its left end", rods.addRod(94, 2, 0), NOT_POSSIBLE);
        due("addRod round it", rods.addRod(94, 12, 0), NOT_POSSIBLE);
        due("addRod to its right", rods.addRod(5, 1, 9), 1);
        due("addRod to its left", rods.addRod(94, 1, 0), 2);
        due("clusters", rods.count(8), 1);
        due("way of a new rod", rods.rod(2, 7), 1000000);
        due("recorded", rods.count(10), 3);
        RingRods full = ring(20, 0, 1, 0, 1, 1, 0, 2, 1, 0, 3, 1, 0, 4, 1, 0, 5, 1, 0, 6, 1, 0, 7, 1, 0);
        due("addRod: a ninth", full.addRod(8, 1, 0), FULL);
        due("addRod: a ninth on another", full.addRod(0, 1, 0), FULL);
        due("addRod: a ninth nowhere", full.addRod(20, 1, 0), UNKNOWN);
        due("addRod: a ninth of no length", full.addRod(0, 0, 0), BAD_VALUE);
        due("errors are not recorded", full.count(10), 4);
    }

    private static void addRodFaults() {
        RingRods rods = ring(20);
        due("addRod as long as the ring", rods.addRod(0, 20, 0), NOT_POSSIBLE);
        due("addRod of 19", rods.addRod(5, 19, 0), 0);
        due("no free length left", rods.addRod(4, 1, 0), NOT_POSSIBLE);
        due("R", rods.count(2), 1);
        rods = ring(50);
        due("addRod at -1", rods.addRod(-1, 1, 0), UNKNOWN);
        due("addRod at 50", rods.addRod(50, 0, 0), UNKNOWN);
        due("addRod at least", rods.addRod(LEAST, 1, 0), UNKNOWN);
        due("addRod at greatest", rods.addRod(GREATEST, 1, 0), UNKNOWN);
        due("addRod of 0", rods.addRod(0, 0, 0), BAD_VALUE);
        due("addRod of 21", rods.addRod(0, 21, 0), BAD_VALUE);
        due("addRod of least", rods.addRod(0, LEAST, 0), BAD_VALUE);
        due("addRod of greatest", rods.addRod(0, GREATEST, 0), BAD_VALUE);
        due("addRod -10", rods.addRod(0, 1, -10), BAD_VALUE);
        due("addRod 10", rods.addRod(0, 1, 10), BAD_VALUE);
        due("addRod least", rods.addRod(0, 1, LEAST), BAD_VALUE);
        due("addRod greatest", rods.addRod(0, 1, GREATEST), BAD_VALUE);
        due("none was added", rods.count(1), 0);
        due("only the ring was recorded", rods.count(10), 1);
        due("addRod 20 long at 49", rods.addRod(49, 20, 9), 0);
    }

    private static void removeRod() {
        RingRods rods = ring(100, 0, 5, 1, 40, 6, 2, 20, 7, 3);
        rods.pass(1);
        due("removeRod 3", rods.removeRod(3), UNKNOWN);
        due("removeRod -1", rods.removeRod(-1), UNKNOWN);
        due("removeRod least", rods.removeRod(LEAST), UNKNOWN);
        due("removeRod greatest", rods.removeRod(GREATEST), UNKNOWN);
        due("removeRod 1", rods.removeRod(1), 2);
        due("place of 1 then", rods.rod(1, 0), 23);
        due("length of 1 then", rods.rod(1, 1), 7);
        due("speed of 1 then", rods.rod(1, 2), 103);
        due("way of 1 then", rods.rod(1, 7), 1000003);
        due("place of 0 then", rods.rod(0, 0), 1);
        due("removeRod 2", rods.removeRod(2), UNKNOWN);
        due("removeRod last", rods.removeRod(1), 1);
        due("removeRod only", rods.removeRod(0), 0);
        due("removeRod of none", rods.removeRod(0), UNKNOWN);
        due("ticks stay", rods.count(3), 1);
        due("undo", rods.undo(), 3);
        due("it is back", rods.rod(0, 1), 5);
    }

    private static void setSpeed() {
        RingRods rods = ring(100, 0, 5, 1);
        due("setSpeed of -1", rods.setSpeed(-1, 10), UNKNOWN);
        due("setSpeed of 1", rods.setSpeed(1, 0), UNKNOWN);
        due("setSpeed of least", rods.setSpeed(LEAST, 0), UNKNOWN);
        due("setSpeed of greatest", rods.setSpeed(GREATEST, 0), UNKNOWN);
        due("setSpeed 10", rods.setSpeed(0, 10), BAD_VALUE);
        due("setSpeed -10", rods.setSpeed(0, -10), BAD_VALUE);
        due("setSpeed least", rods.setSpeed(0, LEAST), BAD_VALUE);
        due("setSpeed greatest", rods.setSpeed(0, GREATEST), BAD_VALUE);
        due("setSpeed as it is", rods.setSpeed(0, 1), NONE);
        due("none recorded", rods.count(10), 1);
        due("setSpeed 9", rods.setSpeed(0, 9), 101);
        due("setSpeed -9", rods.setSpeed(0, -9), 109);
        due("setSpeed 0", rods.setSpeed(0, 0), 91);
        due("recorded", rods.count(10), 4);
        due("undo", rods.undo(), 3);
        due("speed", rods.rod(0, 2), 91);
        // speeds are exchanged when a tick begins, not before
        RingRods touching = ring(100, 0, 5, 0, 5, 5, 0);
        due("setSpeed of a rod that touches", touching.setSpeed(0, 3), 100);
        due("its speed now", touching.rod(0, 2), 103);
        due("its speed behind a tick", touching.speedIn(0, 1), 100);
    }

    private static void reverse() {
        RingRods rods = ring(100, 0, 5, 3, 10, 5, 0, 20, 5, -9);
        due("reverse", rods.reverse(), 2);
        due("3 turned", rods.rod(0, 2), 97);
        due("0 turned", rods.rod(1, 2), 100);
        due("-9 turned", rods.rod(2, 2), 109);
        due("recorded", rods.count(10), 4);
        due("undo", rods.undo(), 3);
        due("3 again", rods.rod(0, 2), 103);
        RingRods still = ring(100, 0, 5, 0);
        due("reverse of none that moves", still.reverse(), NONE);
        due("none recorded", still.count(10), 1);
    }

    private static void pass() {
        RingRods rods = ring(100, 0, 10, 5, 50, 10, -5);
        due("pass 0", rods.pass(0), BAD_VALUE);
        due("pass 101", rods.pass(101), BAD_VALUE);
        due("pass least", rods.pass(LEAST), BAD_VALUE);
        due("pass greatest", rods.pass(GREATEST), BAD_VALUE);
        due("not recorded", rods.count(10), 2);
        due("pass 3", rods.pass(3), 0);
        due("pass up to the meeting", rods.pass(1), 1);
        due("place 0", rods.rod(0, 0), 20);
        due("speed 0", rods.rod(0, 2), 95);
        due("place 1", rods.rod(1, 0), 30);
        due("speed 1", rods.rod(1, 2), 105);
        due("gap", rods.rod(0, 3), 0);
        due("no meeting again", rods.pass(1), 0);
        due("round the other side", rods.pass(7), 1);
        due("place 0 there", rods.rod(0, 0), 80);
        due("place 1 there", rods.rod(1, 0), 70);
        due("way of 0", rods.rod(0, 7), 1000000 + 20 - 40);
        due("way of 1", rods.rod(1, 7), 1000000 - 20 + 40);
        due("ticks", rods.count(3), 12);
        due("meetings", rods.count(4), 2);
        due("impulses", rods.count(5), 20);
        RingRods alone = ring(100, 0, 10, -9);
        due("pass of one alone", alone.pass(100), 0);
        due("its place", alone.rod(0, 0), 0);
        due("its way", alone.rod(0, 7), 1000000 - 900);
    }

    /** One piece is free, so that rods meet at fractions of ticks and often. */
    private static void passFewPlaces() {
        RingRods rods = ring(20, 0, 10, 9, 10, 9, -9);
        due("first moment", rods.next(0), 0);
        due("many in a tick", rods.pass(1), 19);
        due("impulses", rods.count(5), 19 * 18);
        due("in the next tick", rods.pass(1), 18);
        due("moments", rods.moments(1), 18);
        due("in 100 ticks", rods.pass(100), 1800);
        RingRods eight = ring(20, 0, 3, 9, 3, 3, 7, 6, 3, 5, 9, 2, 3, 11, 2, -3, 13, 2, -5, 15, 2, -7, 17, 2, -9);
        Model model = new Model();
        model.setRing(20);
        int[] lengths = {3, 3, 3, 2, 2, 2, 2, 2};
        int[] speeds = {9, 7, 5, 3, -3, -5, -7, -9};
        int place = 0;
        for (int rod = 0; rod < 8; rod++) {
            model.addRod(place, lengths[rod], speeds[rod]);
            place += lengths[rod];
        }
        due("eight: first meetings", eight.next(2), 28);
        due("eight: moments", eight.moments(3), model.moments(3));
        due("eight: pass 100", eight.pass(100), model.pass(100));
        for (int rod = 0; rod < 8; rod++) {
            due("eight: place " + rod, eight.rod(rod, 0), model.rod(rod, 0));
            due("eight: speed " + rod, eight.rod(rod, 2), model.rod(rod, 2));
            due("eight: way " + rod, eight.rod(rod, 7), model.rod(rod, 7));
        }
        due("eight: impulses", eight.count(5), model.count(5));
    }

    private static void passManyAtOnce() {
        // three meet in the middle at the end of the tick
        RingRods rods = ring(100, 10, 5, 4, 19, 5, 0, 28, 5, -4);
        due("meetings at that moment", rods.next(2), 3);
        due("moment", rods.next(0), 1);
        due("moments", rods.moments(1), 1);
        due("pass 1", rods.pass(1), 3);
        due("impulses", rods.count(5), 16);
        due("left speed", rods.rod(0, 2), 96);
        due("middle speed", rods.rod(1, 2), 100);
        due("right speed", rods.rod(2, 2), 104);
        due("no more at the beginning of the next", rods.pass(1), 0);
        // of three that touch, the first two have not met yet
        RingRods touching = ring(100, 0, 5, 3, 5, 5, 5, 10, 5, 1);
        due("two exchanges at the beginning", touching.next(2), 2);
        due("pass 1 of those that touch", touching.pass(1), 2);
        due("impulses of those", touching.count(5), 6);
        due("slowest first", touching.rod(0, 2), 101);
        due("then the next", touching.rod(1, 2), 103);
        due("fastest last", touching.rod(2, 2), 105);
        // equal speeds do not meet
        RingRods equal = ring(100, 0, 5, 2, 5, 5, 2);
        due("equal speeds", equal.pass(100), 0);
    }

    private static void allGoesBack() {
        RingRods rods = ring(60, 3, 4, 7, 11, 6, -2, 30, 1, 0, 55, 7, 9, 33, 2, -8);
        int[] places = {3, 11, 30, 55, 33};
        rods.pass(37);
        rods.reverse();
        rods.pass(37);
        for (int rod = 0; rod < places.length; rod++) {
            due("place " + rod + " is back", rods.rod(rod, 0), places[rod]);
            due("way " + rod + " is back", rods.rod(rod, 7), 1000000);
        }
    }

    private static void mostTicks() {
        RingRods rods = ring(20, 0, 9, 9, 9, 10, -9);
        for (int call = 0; call < 99; call++) {
            rods.pass(100);
        }
        due("pass 99", rods.pass(99), 99 * 18);
        due("ticks", rods.count(3), 9999);
        due("pass 2 too many", rods.pass(2), NOT_POSSIBLE);
        due("pass 101 is out of range", rods.pass(101), BAD_VALUE);
        due("perform p2", performed(rods, "p2"), NOT_POSSIBLE);
        due("perform p1;p1", performed(rods, "p1;p1"), NOT_POSSIBLE);
        due("perform p2;s9=1", performed(rods, "p2;s9=1"), NOT_POSSIBLE);
        due("perform s9=1;p2", performed(rods, "s9=1;p2"), UNKNOWN);
        due("ticks stay", rods.count(3), 9999);
        due("forecasts still go", rods.meetings(100, 0), 1800);
        due("pass 1", rods.pass(1), 18);
        due("pass 1 too many", rods.pass(1), NOT_POSSIBLE);
        due("ticks at last", rods.count(3), 10000);
        due("meetings at last", rods.count(4), 180001);
        due("impulses at last", rods.count(5), 180001 * 18);
        due("keep", rods.keep(), 10000);
        due("undo", rods.undo(), 3);
        due("perform p1", performed(rods, "p1"), 18);
        int speed = rods.rod(0, 2);
        due("speeds still go", rods.setSpeed(0, 0), speed);
    }

    private static void type() {
        RingRods rods = new RingRods();
        for (int length = 1; length <= 60; length++) {
            due("type " + length, rods.type((char) (length * 1000)), length);
        }
        due("type a 61st", rods.type('p'), FULL);
        due("length", rods.count(11), 60);
        due("typing is no act", rods.count(10), 0);
        due("clearText", rods.clearText(), 60);
        due("type again", rods.type((char) 0), 1);
        due("undo leaves the text", rods.undo(), NONE);
        rods.setRing(50);
        rods.undo();
        due("length stays", rods.count(11), 1);
    }

    private static void clearText() {
        RingRods rods = new RingRods();
        due("clearText of the empty one", rods.clearText(), 0);
        CHECKS.type(rods, "p1;r");
        due("clearText", rods.clearText(), 4);
        due("length then", rods.count(11), 0);
        due("clearText is no act", rods.count(10), 0);
        due("the old text is gone", rods.perform(), -100);
        rods.type('p');
        due("also what stood behind", rods.perform(), -101);
    }

    private static void perform() {
        RingRods rods = ring(100, 0, 10, 5, 50, 10, 0);
        due("perform p8", performed(rods, "p8"), 1);
        due("the text stays", rods.count(11), 2);
        due("one act", rods.count(10), 3);
        due("once more", rods.perform(), 0);
        due("ticks", rods.count(3), 16);
        due("undo", rods.undo(), 3);
        due("orders", performed(rods, "s0=9;s1=-9;r;p3;r;s1=0"), 0);
        due("speed 0", rods.rod(0, 2), 109);
        due("speed 1", rods.rod(1, 2), 100);
        due("place 0", rods.rod(0, 0), 13);
        due("place 1", rods.rod(1, 0), 77);
        due("undo is one step", rods.undo(), 3);
        due("place 0 again", rods.rod(0, 0), 40);
        due("perform p99", performed(rods, "p99"), 6);
        due("nothing different", performed(rods, "s0=0;s0=0"), 0);
        due("is recorded", rods.count(10), 4);
        RingRods twice = ring(100, 0, 10, 5, 50, 10, -5);
        due("meetings of all ticks", performed(twice, "p4;r;p4;r;p4"), 3);
        due("meetings so far", twice.count(4), 3);
        due("impulses so far", twice.count(5), 30);
        due("ticks so far", twice.count(3), 12);
        String longest = "p9;p9;p9;p9;p9;p9;p9;p9;p9;p9;p9;p9;p9;p9;p9;p9;p9;p9;p9;p99";
        due("length of the longest", longest.length(), 60);
        int before = rods.count(3);
        due("the longest", Math.min(0, performed(rods, longest)), 0);
        due("ticks of the longest", rods.count(3) - before, 19 * 9 + 99);
    }

    private static void performAllOrNothing() {
        RingRods rods = ring(100, 0, 10, 5, 50, 10, 0);
        due("unknown at last", performed(rods, "p3;s0=1;r;s2=1"), UNKNOWN);
        due("place stays", rods.rod(0, 0), 0);
        due("speed stays", rods.rod(0, 2), 105);
        due("ticks stay", rods.count(3), 0);
        due("nothing recorded", rods.count(10), 2);
        due("a fault goes first", performed(rods, "s2=1;p0"), -106);
        due("place still stays", rods.rod(0, 0), 0);
        due("ends too early", performed(rods, "s2="), -103);
        due("a 60th sign that is missing",
            performed(rods, "p1;p1;p1;p1;p1;p1;p1;p1;p1;p1;p1;p1;p1;p1;p1;p1;p1;p1;p1;p1;"), -160);
        due("rod 1 is known", performed(rods, "s1=-9"), 0);
        due("its speed", rods.rod(1, 2), 91);
    }

    private static void undo() {
        RingRods rods = new RingRods();
        for (int length = 20; length < 26; length++) {
            rods.setRing(length);
        }
        due("at most 4 states", rods.count(10), 4);
        for (int left = 3; left >= 0; left--) {
            due("undo", rods.undo(), left);
            due("length", rods.count(0), 21 + left);
        }
        due("the older ones are dropped", rods.undo(), NONE);
        due("length stays", rods.count(0), 21);
        rods.setRing(30);
        due("undo of a new one", rods.undo(), 0);
        due("undo is no act", rods.count(10), 0);
    }

    private static void undoBringsAllBack() {
        RingRods rods = ring(100, 0, 10, 5, 50, 10, 0);
        rods.pass(9);
        int[] counts = new int[10];
        for (int what = 0; what < counts.length; what++) {
            counts[what] = rods.count(what);
        }
        int[] firsts = new int[8];
        for (int what = 0; what < firsts.length; what++) {
            firsts[what] = rods.rod(0, what);
        }
        rods.pass(77);
        rods.removeRod(0);
        rods.removeRod(0);
        rods.setRing(700);
        due("undo", rods.undo(), 3);
        rods.undo();
        rods.undo();
        due("undo of pass", rods.undo(), 0);
        for (int what = 0; what < counts.length; what++) {
            due("count " + what + " is back", rods.count(what), counts[what]);
        }
        for (int what = 0; what < firsts.length; what++) {
            due("rod 0 " + what + " is back", rods.rod(0, what), firsts[what]);
        }
    }

    private static void keepAndRestore() {
        RingRods rods = ring(100, 0, 10, 5);
        due("restore of none", rods.restore(), NONE);
        rods.pass(4);
        due("keep", rods.keep(), 4);
        due("keep is no act", rods.count(10), 2);
        rods.pass(1);
        rods.removeRod(0);
        due("undo leaves the snapshot", rods.undo(), 3);
        rods.removeRod(0);
        due("restore", rods.restore(), 4);
        due("place", rods.rod(0, 0), 20);
        due("way", rods.rod(0, 7), 1000020);
        due("restore is an act", rods.count(10), 4);
        rods.pass(10);
        due("it stays", rods.restore(), 4);
        due("also if nothing is different", rods.restore(), 4);
        due("which is recorded", rods.undo(), 3);
        rods.undo();
        due("undo of restore", rods.count(3), 14);
        due("keep in its place", rods.keep(), 14);
        rods.pass(1);
        due("restore the new one", rods.restore(), 14);
        rods.setSpeed(0, 1);
        due("the snapshot is its own", rods.restore(), 14);
        due("speed", rods.rod(0, 2), 105);
    }

    private static void rod() {
        RingRods rods = ring(100, 90, 15, -9, 5, 5, 9, 50, 20, 0);
        int[][] told = {
            {90, 15, 91, 0, 1, 2, 0, 1000000},
            {5, 5, 109, 40, 2, 2, 0, 1000000},
            {50, 20, 100, 20, 0, 1, 2, 1000000}};
        for (int rod = 0; rod < told.length; rod++) {
            for (int what = 0; what < told[rod].length; what++) {
                due("rod " + rod + " " + what, rods.rod(rod, what), told[rod][what]);
            }
            due("rod " + rod + " 8", rods.rod(rod, 8), BAD_VALUE);
            due("rod " + rod + " -1", rods.rod(rod, -1), BAD_VALUE);
            due("rod " + rod + " least", rods.rod(rod, LEAST), BAD_VALUE);
            due("rod " + rod + " greatest", rods.rod(rod, GREATEST), BAD_VALUE);
        }
        due("rod 3", rods.rod(3, 0), UNKNOWN);
        due("rod 3 of what is not", rods.rod(3, 9), UNKNOWN);
        due("rod -1", rods.rod(-1, 0), UNKNOWN);
        due("rod least", rods.rod(LEAST, 0), UNKNOWN);
        due("rod greatest", rods.rod(GREATEST, 0), UNKNOWN);
        due("rod 8", rods.rod(8, 0), UNKNOWN);
        RingRods alone = ring(100, 90, 15, -9);
        int[] one = {90, 15, 91, 85, 0, 1, 0, 1000000};
        for (int what = 0; what < one.length; what++) {
            due("alone " + what, alone.rod(0, what), one[what]);
        }
    }

    private static void clusters() {
        // numbers against the order of the places, over the end of the ring
        RingRods rods = ring(30, 3, 2, 0, 29, 4, 0, 24, 5, 0, 10, 1, 0, 11, 1, 0, 20, 4, 0);
        int[] sizes = {4, 4, 4, 2, 2, 4};
        int[] leftmost = {5, 5, 5, 3, 3, 5};
        int[] gaps = {5, 0, 0, 0, 8, 0};
        int[] right = {3, 0, 1, 4, 5, 2};
        for (int rod = 0; rod < sizes.length; rod++) {
            due("gap of " + rod, rods.rod(rod, 3), gaps[rod]);
            due("right of " + rod, rods.rod(rod, 4), right[rod]);
            due("size of the cluster of " + rod, rods.rod(rod, 5), sizes[rod]);
            due("leftmost of the cluster of " + rod, rods.rod(rod, 6), leftmost[rod]);
        }
        due("clusters", rods.count(8), 2);
        due("greatest gap", rods.count(9), 8);
    }

    private static void cover() {
        RingRods rods = ring(30, 28, 4, 0, 2, 1, 0);
        int[] covered = {0, 0, 1, NONE};
        for (int place = 0; place < covered.length; place++) {
            due("cover " + place, rods.cover(place), covered[place]);
        }
        due("cover 27", rods.cover(27), NONE);
        due("cover 28", rods.cover(28), 0);
        due("cover 29", rods.cover(29), 0);
        due("cover 30", rods.cover(30), UNKNOWN);
        due("cover -1", rods.cover(-1), UNKNOWN);
        due("cover least", rods.cover(LEAST), UNKNOWN);
        due("cover greatest", rods.cover(GREATEST), UNKNOWN);
    }

    private static void placeIn() {
        RingRods rods = ring(100, 0, 10, 5, 50, 10, 0);
        due("placeIn 0", rods.placeIn(0, 0), 0);
        due("placeIn 8", rods.placeIn(0, 8), 40);
        due("placeIn 9", rods.placeIn(0, 9), 40);
        due("placeIn 9 of the other", rods.placeIn(1, 9), 55);
        due("placeIn 100", rods.placeIn(1, 100), ahead(rods, 1, 100));
        due("placeIn -1", rods.placeIn(0, -1), BAD_VALUE);
        due("placeIn 101", rods.placeIn(0, 101), BAD_VALUE);
        due("placeIn least", rods.placeIn(0, LEAST), BAD_VALUE);
        due("placeIn greatest", rods.placeIn(0, GREATEST), BAD_VALUE);
        due("placeIn of 2", rods.placeIn(2, -1), UNKNOWN);
        due("placeIn of -1", rods.placeIn(-1, 1), UNKNOWN);
        due("nothing has moved", rods.rod(0, 0), 0);
        due("nor passed", rods.count(3), 0);
    }

    private static int ahead(RingRods rods, int rod, int ticks) {
        rods.pass(ticks);
        int place = rods.rod(rod, 0);
        rods.undo();
        return place;
    }

    private static void speedIn() {
        RingRods rods = ring(100, 0, 10, 5, 10, 10, -5);
        due("speedIn 0 is as it is now", rods.speedIn(0, 0), 105);
        due("speedIn 1", rods.speedIn(0, 1), 95);
        due("speedIn 1 of the other", rods.speedIn(1, 1), 105);
        due("speedIn 7", rods.speedIn(0, 7), 95);
        due("speedIn 8", rods.speedIn(0, 8), 105);
        due("speedIn 100", rods.speedIn(0, 100), 95);
        due("speedIn -1", rods.speedIn(0, -1), BAD_VALUE);
        due("speedIn 101", rods.speedIn(0, 101), BAD_VALUE);
        due("speedIn least", rods.speedIn(0, LEAST), BAD_VALUE);
        due("speedIn greatest", rods.speedIn(0, GREATEST), BAD_VALUE);
        due("speedIn of 2", rods.speedIn(2, 101), UNKNOWN);
        due("speedIn of -1", rods.speedIn(-1, 1), UNKNOWN);
        due("nothing is exchanged", rods.rod(0, 2), 105);
    }

    private static void meetings() {
        RingRods rods = ring(100, 0, 10, 5, 50, 10, -5);
        due("meetings 1", rods.meetings(1, 0), 0);
        due("impulses 1", rods.meetings(1, 1), 0);
        due("meetings before", rods.meetings(3, 0), 0);
        due("meetings at the very end", rods.meetings(4, 0), 1);
        due("impulse", rods.meetings(4, 1), 10);
        due("meetings 12", rods.meetings(12, 0), 2);
        due("impulses 12", rods.meetings(12, 1), 20);
        due("meetings 100", rods.meetings(100, 0), 13);
        due("meetings 0", rods.meetings(0, 0), BAD_VALUE);
        due("meetings -1", rods.meetings(-1, 1), BAD_VALUE);
        due("meetings 101", rods.meetings(101, 0), BAD_VALUE);
        due("meetings least", rods.meetings(LEAST, 0), BAD_VALUE);
        due("meetings greatest", rods.meetings(GREATEST, 0), BAD_VALUE);
        due("meetings of what is not", rods.meetings(1, 2), BAD_VALUE);
        due("meetings of -1", rods.meetings(1, -1), BAD_VALUE);
        due("meetings of least", rods.meetings(1, LEAST), BAD_VALUE);
        due("none so far", rods.count(4), 0);
        due("no impulse so far", rods.count(5), 0);
    }

    private static void moments() {
        // a pair on either side meets at the same moment: at one half, and then at each tick's
        RingRods rods = ring(40, 0, 5, 1, 6, 5, -1, 20, 5, 1, 26, 5, -1);
        due("moments 1", rods.moments(1), 1);
        due("meetings of it", rods.next(2), 2);
        due("upper", rods.next(0), 1);
        due("lower", rods.next(1), 2);
        // one piece is free: 18 turns in a tick, the beginning and the end counted
        RingRods fast = ring(20, 0, 10, 9, 10, 9, -9);
        due("fast 1", fast.moments(1), 19);
        due("fast 2", fast.moments(2), 37);
        due("fast 3", fast.moments(3), 55);
        // halves, thirds and fifths of a tick have the whole ones alone in common
        RingRods three = ring(20, 0, 10, 1, 10, 5, 3, 15, 4, 6);
        due("three 1", three.moments(1), 8);
        due("three 3", three.moments(3), 24);
        due("moments 0", fast.moments(0), BAD_VALUE);
        due("moments 4", fast.moments(4), BAD_VALUE);
        due("moments least", fast.moments(LEAST), BAD_VALUE);
        due("moments greatest", fast.moments(GREATEST), BAD_VALUE);
    }

    private static void next() {
        RingRods rods = ring(1000, 0, 1, 5, 999, 1, 9, 500, 20, -9);
        due("touching, and the left one faster", rods.next(0), 0);
        due("lower of 0", rods.next(1), 1);
        due("meetings at 0", rods.next(2), 1);
        RingRods apart = ring(100, 0, 10, 4, 20, 10, -2);
        due("upper in lowest terms", apart.next(0), 5);
        due("lower in lowest terms", apart.next(1), 3);
        RingRods late = ring(1000, 0, 1, 1, 2, 1, 2);
        due("late upper", late.next(0), 997);
        due("late lower", late.next(1), 1);
        due("next 3", late.next(3), BAD_VALUE);
        due("next -1", late.next(-1), BAD_VALUE);
        due("next least", late.next(LEAST), BAD_VALUE);
        due("next greatest", late.next(GREATEST), BAD_VALUE);
        RingRods never = ring(100, 0, 10, 4, 10, 10, 4);
        due("never", never.next(0), NONE);
        due("never 1", never.next(1), NONE);
        due("never 2", never.next(2), NONE);
        due("never 3", never.next(3), BAD_VALUE);
        due("alone", ring(100, 0, 1, 9).next(2), NONE);
    }

    private static void count() {
        RingRods rods = ring(90, 0, 10, -9, 12, 20, 4, 80, 10, 0);
        rods.type('x');
        int[] told = {90, 3, 50, 0, 0, 0, 995, 97, 2, 48, 4, 1};
        for (int what = 0; what < told.length; what++) {
            due("count " + what, rods.count(what), told[what]);
        }
        due("count 12", rods.count(12), BAD_VALUE);
        due("count -1", rods.count(-1), BAD_VALUE);
        due("count least", rods.count(LEAST), BAD_VALUE);
        due("count greatest", rods.count(GREATEST), BAD_VALUE);
    }
}
