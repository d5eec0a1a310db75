import java.util.ArrayList;
import java.util.List;

/**
 * Every method with every combination of arguments at the edges, in states at the edges: the answer
 * is the model's, and so is all that can be told then; a refused call, or one that only tells, leaves
 * all as it is on an object of which the same is asked without it.
 */
final class CornerTest {
    private static final int LEAST = Checks.LEAST;
    private static final int GREATEST = Checks.GREATEST;
    private static final int MOST_CALLS = 512;

    private final Checks checks = new Checks();

    public static void main(String[] args) {
        CornerTest test = new CornerTest();
        int number = 0;
        for (List<Call> way : ways()) {
            test.inState("state " + number + ": ", way);
            number++;
        }
        test.checks.end();
    }

    private static List<List<Call>> ways() {
        List<List<Call>> ways = new ArrayList<>();
        ways.add(List.of());
        ways.add(way("ring 20", "rod 0 19 9"));
        ways.add(way("ring 1000", "rod 999 20 -9"));
        ways.add(way("rod 95 10 3", "rod 5 5 -3", "rod 50 1 0"));
        ways.add(way("ring 20", "rod 0 3 9", "rod 3 3 7", "rod 6 3 5", "rod 9 2 3", "rod 11 2 -3", "rod 13 2 -5",
            "rod 15 2 -7", "rod 17 2 -9"));
        ways.add(way("ring 20", "rod 0 2 1", "rod 2 2 0", "rod 4 2 -1", "rod 6 2 2", "rod 8 2 -2", "rod 10 2 0",
            "rod 12 2 9"));
        ways.add(way("ring 30", "rod 0 4 5", "rod 10 4 -5", "ticks 9999", "text p1;r;p1"));
        ways.add(way("ring 30", "rod 0 4 5", "rod 10 4 -5", "ticks 10000", "text r;s0=5;s1=-5"));
        ways.add(way("ring 40", "keep", "rod 39 2 1", "text p3;s0=-9;r", "pass 1", "pass 2", "pass 3", "pass 4"));
        ways.add(way("rod 0 4 0", "text s0=1;s1=1", "keep", "pass 100", "pass 1"));
        ways.add(way("rod 0 4 0", "text p10;p0", "reverse", "keep", "removeRod 0"));
        ways.add(way("text p9;p9;p9;p9;p9;p9;p9;p9;p9;p9;p9;p9;p9;p9;p9;p9;p9;p9;p9;p99", "rod 99 1 -9", "rod 0 1 9"));
        ways.add(way("text xxxxxxxxxxxxxxxxxxxxxxxxxxxxxxxxxxxxxxxxxxxxxxxxxxxxxxxxxxx", "rod 0 1 1", "keep", "undo"));
        return ways;
    }

    private static List<Call> way(String... steps) {
        List<Call> way = new ArrayList<>();
        for (String step : steps) {
            String[] words = step.split(" ");
            switch (words[0]) {
                case "ring":
                    way.add(new Call("setRing", Integer.parseInt(words[1])));
                    break;
                case "rod":
                    way.add(new Call("addRod", Integer.parseInt(words[1]), Integer.parseInt(words[2]),
                        Integer.parseInt(words[3])));
                    break;
                case "ticks":
                    for (int left = Integer.parseInt(words[1]); left > 0; left -= 100) {
                        way.add(new Call("pass", Math.min(100, left)));
                    }
                    break;
                case "text":
                    words[1].chars().forEach(sign -> way.add(new Call("type", sign)));
                    break;
                default:
                    way.add(words.length == 1 ? new Call(words[0]) : new Call(words[0], Integer.parseInt(words[1])));
                    break;
            }
        }
        return way;
    }

    private void inState(String told, List<Call> way) {
        Model before = new Model();
        RingRods first = new RingRods();
        for (Call call : way) {
            checks.due(told + "on the way, " + call, call.on(first), call.on(before));
        }
        int[] untouched = tellAll(first, before);
        for (Call call : calls(before)) {
            RingRods rods = played(way);
            Model model = before.copy();
            int answer = call.on(rods);
            checks.due(told + call, answer, call.on(model));
            if (call.changes() && answer >= 0) {
                same(told + "behind " + call + ", ", rods, model, way.size());
            } else {
                unchanged(told + "behind " + call + ", ", rods, model, way.size(), untouched);
            }
        }
    }

    private static RingRods played(List<Call> way) {
        RingRods rods = new RingRods();
        for (Call call : way) {
            call.on(rods);
        }
        return rods;
    }

    private void same(String told, RingRods rods, Model model, int calls) {
        List<Call> questions = fewEnough(told, calls, model);
        for (Call call : questions) {
            checks.due(told + call, call.on(rods), call.on(model));
        }
    }

    private static int[] tellAll(RingRods rods, Model model) {
        List<Call> questions = questions(model.now.rods.size(), model.now.ring);
        int[] told = new int[questions.size()];
        for (int at = 0; at < told.length; at++) {
            told[at] = questions.get(at).on(rods);
        }
        return told;
    }

    private void unchanged(String told, RingRods rods, Model model, int calls, int[] untouched) {
        List<Call> questions = fewEnough(told, calls, model);
        for (int at = 0; at < untouched.length; at++) {
            checks.due(told + questions.get(at), questions.get(at).on(rods), untouched[at]);
        }
    }

    private List<Call> fewEnough(String told, int calls, Model model) {
        List<Call> questions = questions(model.now.rods.size(), model.now.ring);
        // the call that is looked at is one more
        checks.due(told + "calls too many", Math.max(0, calls + 1 + questions.size() - MOST_CALLS), 0);
        return questions;
    }

    /** All that tells of a state, and at last what brings the text, the history and the snapshot to light. */
    private static List<Call> questions(int rods, int ring) {
        List<Call> calls = new ArrayList<>();
        tell(calls, rods, ring);
        calls.add(new Call("perform"));
        tell(calls, rods, ring);
        for (int time = 0; time < 5; time++) {
            calls.add(new Call("undo"));
            counts(calls);
        }
        calls.add(new Call("restore"));
        counts(calls);
        calls.add(new Call("clearText"));
        return calls;
    }

    private static void counts(List<Call> calls) {
        for (int what = 0; what < 12; what++) {
            calls.add(new Call("count", what));
        }
    }

    private static void tell(List<Call> calls, int rods, int ring) {
        counts(calls);
        for (int rod = 0; rod < rods; rod++) {
            for (int what : new int[] {0, 1, 2, 3, 7}) {
                calls.add(new Call("rod", rod, what));
            }
        }
        calls.add(new Call("cover", 0));
        calls.add(new Call("cover", ring - 1));
        calls.add(new Call("next", 0));
        calls.add(new Call("next", 2));
        calls.add(new Call("moments", 1));
    }

    private static List<Call> calls(Model model) {
        int count = model.now.rods.size();
        int ring = model.now.ring;
        int[] rods = {LEAST, -1, 0, 1, count - 1, count, count + 1, 7, 8, GREATEST};
        int[] places = {LEAST, -ring, -1, 0, 1, 2, ring / 2, ring - 2, ring - 1, ring, ring + 1, GREATEST};
        int[] lengths = {LEAST, -1, 0, 1, 2, 5, 6, 19, 20, 21, GREATEST};
        int[] speeds = {LEAST, -10, -9, -1, 0, 1, 9, 10, GREATEST};
        int[] ticks = {LEAST, -1, 0, 1, 2, 3, 4, 99, 100, 101, GREATEST};
        int[] whats = {LEAST, -1, 0, 1, 2, 3, 4, 5, 6, 7, 8, 9, 10, 11, 12, GREATEST};
        List<Call> calls = new ArrayList<>();
        each(calls, "setRing", LEAST, -1, 0, 19, 20, 21, 99, 100, 101, 999, 1000, 1001, GREATEST);
        for (int place : places) {
            for (int length : lengths) {
                for (int speed : speeds) {
                    calls.add(new Call("addRod", place, length, speed));
                }
            }
        }
        each(calls, "removeRod", rods);
        both(calls, "setSpeed", rods, speeds);
        each(calls, "pass", ticks);
        each(calls, "type", 0, 'p', 'r', 's', ';', '=', '-', '0', '1', '9', 255, 256, 65535);
        for (String name : new String[] {"reverse", "clearText", "perform", "undo", "keep", "restore"}) {
            calls.add(new Call(name));
        }
        both(calls, "rod", rods, whats);
        each(calls, "cover", places);
        both(calls, "placeIn", rods, ticks);
        both(calls, "speedIn", rods, ticks);
        both(calls, "meetings", ticks, whats);
        each(calls, "moments", ticks);
        each(calls, "next", whats);
        each(calls, "count", whats);
        return calls;
    }

    private static void each(List<Call> calls, String name, int... values) {
        for (int value : values) {
            calls.add(new Call(name, value));
        }
    }

    private static void both(List<Call> calls, String name, int[] firsts, int[] seconds) {
        for (int first : firsts) {
            for (int second : seconds) {
                calls.add(new Call(name, first, second));
            }
        }
    }
}
