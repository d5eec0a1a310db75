/** Compares answers with what is due; a test ends with exit code 1 if any differed. */
final class Checks {
    static final int UNKNOWN = -1;
    static final int BAD_VALUE = -2;
    static final int FULL = -3;
    static final int NOT_POSSIBLE = -4;
    static final int NONE = -5;
    static final int LEAST = Integer.MIN_VALUE;
    static final int GREATEST = Integer.MAX_VALUE;

    private static final int MOST_SHOWN = 20;
    private int wrong;
    private int right;

    void due(String call, long got, long want) {
        if (got == want) {
            right++;
            return;
        }
        wrong++;
        if (wrong <= MOST_SHOWN) {
            System.out.println(call + " answered " + got + ", due is " + want);
        }
    }

    /** A ring, and rods of which each has a place, a length and a speed. */
    RingRods ring(int length, int... rods) {
        RingRods made = new RingRods();
        made.setRing(length);
        for (int at = 0; at + 2 < rods.length; at += 3) {
            due("number of a new rod", made.addRod(rods[at], rods[at + 1], rods[at + 2]), at / 3);
        }
        return made;
    }

    /** Lets more ticks pass than one call can. */
    void passLong(RingRods rods, int ticks) {
        for (int left = ticks; left > 0; left -= 100) {
            rods.pass(Math.min(100, left));
        }
    }

    void type(RingRods rods, String text) {
        for (char sign : text.toCharArray()) {
            rods.type(sign);
        }
    }

    /** What perform answers for this text alone. */
    int performed(RingRods rods, String text) {
        rods.clearText();
        type(rods, text);
        return rods.perform();
    }

    void end() {
        System.out.println(right + " answers are as due, " + wrong + " are not");
        if (wrong != 0) {
            System.exit(1);
        }
    }
}
