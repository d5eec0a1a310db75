/** Compares answers with what is due; a test ends with exit code 1 if any differed. */
final class Checks {
    private static final int MOST_SHOWN = 20;
    private int wrong;
    private int right;

    void due(String call, long got, long want) {
        if (got == want) {
            right++;
            return;
        }
        wrong++;
        if (wrong <= MOST_SHOWN) {
            System.out.println(call + " answered " + got + ", due is " + want);
        }
    }

    void type(RingRods rods, String text) {
        for (char sign : text.toCharArray()) {
            rods.type(sign);
        }
    }

    void end() {
        System.out.println(right + " answers are as due, " + wrong + " are not");
        if (wrong != 0) {
            System.exit(1);
        }
    }
}
