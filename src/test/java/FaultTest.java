/** Every short text of the signs that matter, and some longer ones: where its fault is. */
final class FaultTest {
    private static final String SIGNS = "prs;=-0159";
    private static final int LONGEST = 5;

    private final Checks checks = new Checks();

    public static void main(String[] args) {
        FaultTest test = new FaultTest();
        test.allThatBegin("");
        String[] longer = {"p12;s3=-4;r;p9", "p12;s3=-4;r;p", "p12;s3=-4;r;", "p12;s3=--4", "r;r;r;r;r;x",
            "s0=5;s0=-5;s0=0;s0=00", "p10;p100", "p1;;p1", "P1", "p1 ", " p1", "p\u0661", "s\u0660=1", "p1\n",
            "\u0000", "p1\u0000", "\uffff", "r;\u0170"};
        for (String text : longer) {
            test.faultOf(text);
        }
        test.checks.end();
    }

    private void allThatBegin(String begun) {
        faultOf(begun);
        if (begun.length() < LONGEST) {
            for (char sign : SIGNS.toCharArray()) {
                allThatBegin(begun + sign);
            }
        }
    }

    private void faultOf(String text) {
        RingRods fresh = new RingRods();
        checks.type(fresh, text);
        int fault = Model.fault(text);
        int answer = fresh.perform();
        if (fault >= 0) {
            checks.due("fault of '" + text + "'", answer, -100 - fault);
            checks.due("states behind the fault of '" + text + "'", fresh.count(10), 0);
        } else {
            // there are no rods: an order to one is an error
            checks.due("perform '" + text + "'", answer, text.indexOf('s') >= 0 ? -1 : 0);
        }
        checks.due("the text stays", fresh.count(11), text.length());
    }
}
