import java.util.ArrayList;
import java.util.List;
import java.util.TreeSet;
import java.util.regex.Matcher;
import java.util.regex.Pattern;

/**
 * The document once more, told in another way: rods go from meeting to meeting and exchange their
 * speeds there. Time and places are counted in parts so small that each meeting is at a whole one.
 */
final class Model {
    /** The least common multiple of 1 to 18, the differences that two speeds can have. */
    static final long PARTS = 12252240L;

    private static final Pattern ORDER =
            Pattern.compile("p[1-9][0-9]?|r|s[0-9]=(-[1-9]|[0-9])");

    static final class Rod {
        long at;
        int length;
        int speed;
        long way;

        Rod copy() {
            Rod copy = new Rod();
            copy.at = at;
            copy.length = length;
            copy.speed = speed;
            copy.way = way;
            return copy;
        }
    }

    static final class State {
        int ring = 100;
        int ticks;
        int meetings;
        int impulses;
        final List<Rod> rods = new ArrayList<>();

        State copy() {
            State copy = new State();
            copy.ring = ring;
            copy.ticks = ticks;
            copy.meetings = meetings;
            copy.impulses = impulses;
            for (Rod rod : rods) {
                copy.rods.add(rod.copy());
            }
            return copy;
        }

        List<Rod> inOrder() {
            List<Rod> order = new ArrayList<>(rods);
            order.sort((one, other) -> Long.compare(one.at, other.at));
            return order;
        }

        int free() {
            int free = ring;
            for (Rod rod : rods) {
                free -= rod.length;
            }
            return free;
        }

        int placeOf(Rod rod) {
            return (int) (rod.at / PARTS);
        }
    }

    /** What happens while time passes. */
    static final class Run {
        final TreeSet<Long> moments = new TreeSet<>();
        int meetings;
        int impulses;
        long firstMoment = -1;
        int firstMeetings;
    }

    State now = new State();
    State snapshot;
    final List<State> history = new ArrayList<>();
    final StringBuilder text = new StringBuilder();

    Model copy() {
        Model copy = new Model();
        copy.now = now.copy();
        copy.snapshot = snapshot == null ? null : snapshot.copy();
        for (State state : history) {
            copy.history.add(state.copy());
        }
        copy.text.append(text);
        return copy;
    }

    static long gap(State state, Rod left, Rod right) {
        long whole = state.ring * PARTS;
        if (left == right) {
            return whole - left.length * PARTS;
        }
        // of two rods, the right end of the one may be where the left end of the other is
        long ahead = Math.floorMod(right.at - left.at, whole);
        return ahead - left.length * PARTS;
    }

    static void exchange(State state, List<Rod> order, Run run, long moment) {
        boolean again = true;
        while (again) {
            again = false;
            for (int at = 0; at < order.size(); at++) {
                Rod left = order.get(at);
                Rod right = order.get((at + 1) % order.size());
                if (left != right && gap(state, left, right) == 0 && left.speed > right.speed) {
                    run.meetings++;
                    run.impulses += left.speed - right.speed;
                    run.moments.add(moment);
                    if (run.firstMoment < 0) {
                        run.firstMoment = moment;
                    }
                    if (run.firstMoment == moment) {
                        run.firstMeetings++;
                    }
                    int speed = left.speed;
                    left.speed = right.speed;
                    right.speed = speed;
                    again = true;
                }
            }
        }
    }

    static long untilNext(State state, List<Rod> order) {
        long least = Long.MAX_VALUE;
        for (int at = 0; at < order.size(); at++) {
            Rod left = order.get(at);
            Rod right = order.get((at + 1) % order.size());
            if (left != right && left.speed > right.speed) {
                least = Math.min(least, gap(state, left, right) / (left.speed - right.speed));
            }
        }
        return least;
    }

    static void move(State state, long parts) {
        for (Rod rod : state.rods) {
            rod.way += rod.speed * parts;
            rod.at = Math.floorMod(rod.at + rod.speed * parts, state.ring * PARTS);
        }
    }

    /** Lets time pass up to so many parts of a tick, or (parts below 0) up to the first meeting. */
    static Run advance(State state, long parts) {
        Run run = new Run();
        List<Rod> order = state.inOrder();
        long time = 0;
        exchange(state, order, run, time);
        while (true) {
            long step = untilNext(state, order);
            if (parts < 0 && (run.firstMoment >= 0 || step == Long.MAX_VALUE)) {
                return run;
            }
            if (parts >= 0 && step > parts - time) {
                move(state, parts - time);
                return run;
            }
            move(state, step);
            time += step;
            exchange(state, order, run, time);
        }
    }

    Run passOn(int ticks) {
        Run run = advance(now, ticks * PARTS);
        now.ticks += ticks;
        now.meetings += run.meetings;
        now.impulses += run.impulses;
        return run;
    }

    void record() {
        record(now.copy());
    }

    void record(State state) {
        history.add(state);
        if (history.size() > 4) {
            history.remove(0);
        }
    }

    int setRing(int length) {
        if (length < 20 || length > 1000) {
            return -2;
        }
        if (!now.rods.isEmpty()) {
            return -4;
        }
        if (length == now.ring) {
            return -5;
        }
        record();
        int previous = now.ring;
        now.ring = length;
        return previous;
    }

    int addRod(int place, int length, int speed) {
        if (place < 0 || place >= now.ring) {
            return -1;
        }
        if (length < 1 || length > 20 || speed < -9 || speed > 9) {
            return -2;
        }
        if (now.rods.size() == 8) {
            return -3;
        }
        for (int piece = place; piece < place + length; piece++) {
            if (cover(piece % now.ring) >= 0) {
                return -4;
            }
        }
        if (now.free() - length <= 0) {
            return -4;
        }
        record();
        Rod rod = new Rod();
        rod.at = place * PARTS;
        rod.length = length;
        rod.speed = speed;
        now.rods.add(rod);
        return now.rods.size() - 1;
    }

    private boolean unknown(int rod) {
        return rod < 0 || rod >= now.rods.size();
    }

    int removeRod(int rod) {
        if (unknown(rod)) {
            return -1;
        }
        record();
        now.rods.remove(rod);
        return now.rods.size();
    }

    int setSpeed(int rod, int speed) {
        if (unknown(rod)) {
            return -1;
        }
        if (speed < -9 || speed > 9) {
            return -2;
        }
        int previous = now.rods.get(rod).speed;
        if (previous == speed) {
            return -5;
        }
        record();
        now.rods.get(rod).speed = speed;
        return 100 + previous;
    }

    private void turnRound() {
        for (Rod rod : now.rods) {
            rod.speed = -rod.speed;
        }
    }

    int reverse() {
        int moving = 0;
        for (Rod rod : now.rods) {
            moving += rod.speed == 0 ? 0 : 1;
        }
        if (moving == 0) {
            return -5;
        }
        record();
        turnRound();
        return moving;
    }

    int pass(int ticks) {
        if (ticks < 1 || ticks > 100) {
            return -2;
        }
        if (now.ticks + ticks > 10000) {
            return -4;
        }
        record();
        return passOn(ticks).meetings;
    }

    int type(char character) {
        if (text.length() == 60) {
            return -3;
        }
        text.append(character);
        return text.length();
    }

    int clearText() {
        int length = text.length();
        text.setLength(0);
        return length;
    }

    /** A sign is allowed where some ending makes a right text of all up to it. */
    private static boolean canBeginText(String begun) {
        String[] endings = {"", "1", "=1", "0=1", "r"};
        for (String ending : endings) {
            if (isText(begun + ending)) {
                return true;
            }
        }
        return false;
    }

    private static boolean isText(String whole) {
        for (String order : whole.split(";", -1)) {
            if (!ORDER.matcher(order).matches()) {
                return false;
            }
        }
        return true;
    }

    static int fault(String whole) {
        for (int at = 0; at < whole.length(); at++) {
            if (!canBeginText(whole.substring(0, at + 1))) {
                return at;
            }
        }
        return isText(whole) ? -1 : whole.length();
    }

    int perform() {
        int fault = fault(text.toString());
        if (fault >= 0) {
            return -100 - fault;
        }
        State before = now.copy();
        int meetings = 0;
        Matcher orders = ORDER.matcher(text);
        while (orders.find()) {
            String order = orders.group();
            int error = 0;
            if (order.charAt(0) == 'p') {
                int ticks = Integer.parseInt(order.substring(1));
                if (now.ticks + ticks > 10000) {
                    error = -4;
                } else {
                    meetings += passOn(ticks).meetings;
                }
            } else if (order.charAt(0) == 'r') {
                turnRound();
            } else if (unknown(order.charAt(1) - '0')) {
                error = -1;
            } else {
                now.rods.get(order.charAt(1) - '0').speed = Integer.parseInt(order.substring(3));
            }
            if (error != 0) {
                now = before;
                return error;
            }
        }
        record(before);
        return meetings;
    }

    int undo() {
        if (history.isEmpty()) {
            return -5;
        }
        now = history.remove(history.size() - 1);
        return history.size();
    }

    int keep() {
        snapshot = now.copy();
        return now.ticks;
    }

    int restore() {
        if (snapshot == null) {
            return -5;
        }
        record();
        now = snapshot.copy();
        return now.ticks;
    }

    int rod(int number, int what) {
        if (unknown(number)) {
            return -1;
        }
        Rod rod = now.rods.get(number);
        List<Rod> order = now.inOrder();
        int size = order.size();
        int rank = order.indexOf(rod);
        Rod right = order.get((rank + 1) % size);
        switch (what) {
            case 0: return now.placeOf(rod);
            case 1: return rod.length;
            case 2: return 100 + rod.speed;
            case 3: return (int) (gap(now, rod, right) / PARTS);
            case 4: return now.rods.indexOf(right);
            case 5: return (lastRank(order, rank) - firstRank(order, rank)) + 1;
            case 6: return now.rods.indexOf(order.get(Math.floorMod(firstRank(order, rank), size)));
            case 7: return (int) (1000000 + rod.way / PARTS);
            default: return -2;
        }
    }

    private boolean touchesNext(List<Rod> order, int rank) {
        Rod left = order.get(Math.floorMod(rank, order.size()));
        Rod right = order.get(Math.floorMod(rank + 1, order.size()));
        return gap(now, left, right) == 0;
    }

    private int firstRank(List<Rod> order, int rank) {
        int first = rank;
        while (touchesNext(order, first - 1)) {
            first--;
        }
        return first;
    }

    private int lastRank(List<Rod> order, int rank) {
        int last = rank;
        while (touchesNext(order, last)) {
            last++;
        }
        return last;
    }

    int cover(int place) {
        if (place < 0 || place >= now.ring) {
            return -1;
        }
        for (int number = 0; number < now.rods.size(); number++) {
            Rod rod = now.rods.get(number);
            for (int piece = 0; piece < rod.length; piece++) {
                if ((now.placeOf(rod) + piece) % now.ring == place) {
                    return number;
                }
            }
        }
        return -5;
    }

    int placeIn(int rod, int ticks) {
        if (unknown(rod)) {
            return -1;
        }
        if (ticks < 0 || ticks > 100) {
            return -2;
        }
        State then = now.copy();
        if (ticks > 0) {
            advance(then, ticks * PARTS);
        }
        return then.placeOf(then.rods.get(rod));
    }

    int speedIn(int rod, int ticks) {
        if (unknown(rod)) {
            return -1;
        }
        if (ticks < 0 || ticks > 100) {
            return -2;
        }
        State then = now.copy();
        if (ticks > 0) {
            advance(then, ticks * PARTS);
        }
        return 100 + then.rods.get(rod).speed;
    }

    int meetings(int ticks, int what) {
        if (ticks < 1 || ticks > 100 || what < 0 || what > 1) {
            return -2;
        }
        Run run = advance(now.copy(), ticks * PARTS);
        return what == 0 ? run.meetings : run.impulses;
    }

    int moments(int ticks) {
        if (ticks < 1 || ticks > 3) {
            return -2;
        }
        return advance(now.copy(), ticks * PARTS).moments.size();
    }

    int next(int what) {
        if (what < 0 || what > 2) {
            return -2;
        }
        Run run = advance(now.copy(), -1);
        if (run.firstMoment < 0) {
            return -5;
        }
        long divisor = divisor(run.firstMoment, PARTS);
        switch (what) {
            case 0: return (int) (run.firstMoment / divisor);
            case 1: return (int) (PARTS / divisor);
            default: return run.firstMeetings;
        }
    }

    private static long divisor(long one, long other) {
        return other == 0 ? one : divisor(other, one % other);
    }

    int count(int what) {
        int speeds = 0;
        int squares = 0;
        int clusters = 0;
        int greatest = 0;
        for (int rod = 0; rod < now.rods.size(); rod++) {
            int speed = now.rods.get(rod).speed;
            speeds += speed;
            squares += speed * speed;
            clusters += rod(rod, 6) == rod ? 1 : 0;
            greatest = Math.max(greatest, rod(rod, 3));
        }
        int[] told = {now.ring, now.rods.size(), now.free(), now.ticks, now.meetings, now.impulses,
            1000 + speeds, squares, clusters, greatest, history.size(), text.length()};
        return what < 0 || what >= told.length ? -2 : told[what];
    }
}
