/** Hard rods on a ring that exchange their speeds as they meet. */
public final class RingRods {
    public static final int UNKNOWN = -1;
    public static final int BAD_VALUE = -2;
    public static final int FULL = -3;
    public static final int NOT_POSSIBLE = -4;
    public static final int NONE = -5;

    private static final int LEAST_RING = 20;
    private static final int GREATEST_RING = 1000;
    private static final int FIRST_RING = 100;
    private static final int MOST_RODS = 8;
    private static final int LONGEST_ROD = 20;
    private static final int GREATEST_SPEED = 9;
    private static final int MOST_TICKS_AT_ONCE = 100;
    private static final int MOST_TICKS_OF_MOMENTS = 3;
    private static final int MOST_TICKS = 10000;
    private static final int MOST_STATES = 4;
    private static final int MOST_SIGNS = 60;
    private static final int SPEED_BASE = 100;
    private static final int SPEEDS_BASE = 1000;
    private static final int WAY_BASE = 1000000;
    private static final int FAULT_BASE = -100;

    private final State now;
    private final State kept;
    private final History history;
    private final Text text;
    private final Motion motion;
    private final Crossings crossings;
    private boolean isKept;

    public RingRods() {
        now = new State();
        kept = new State();
        history = new History();
        text = new Text();
        motion = new Motion();
        crossings = new Crossings();
        isKept = false;
    }

    // ---- the ring and its rods

    public int setRing(int length) {
        if (length < LEAST_RING || length > GREATEST_RING) {
            return BAD_VALUE;
        }
        if (now.rods > 0) {
            return NOT_POSSIBLE;
        }
        if (length == now.ringLength) {
            return NONE;
        }
        history.record(now);
        int previous = now.ringLength;
        now.ringLength = length;
        return previous;
    }

    public int addRod(int place, int length, int speed) {
        if (!now.hasPlace(place)) {
            return UNKNOWN;
        }
        if (length < 1 || length > LONGEST_ROD || !isSpeed(speed)) {
            return BAD_VALUE;
        }
        if (now.rods >= MOST_RODS) {
            return FULL;
        }
        if (!now.hasRoom(place, length)) {
            return NOT_POSSIBLE;
        }
        history.record(now);
        return now.append(place, length, speed);
    }

    public int removeRod(int rod) {
        if (!now.hasRod(rod)) {
            return UNKNOWN;
        }
        history.record(now);
        now.drop(rod);
        return now.rods;
    }

    public int setSpeed(int rod, int speed) {
        if (!now.hasRod(rod)) {
            return UNKNOWN;
        }
        if (!isSpeed(speed)) {
            return BAD_VALUE;
        }
        int previous = now.speed[rod];
        if (speed == previous) {
            return NONE;
        }
        history.record(now);
        now.speed[rod] = speed;
        return SPEED_BASE + previous;
    }

    public int reverse() {
        int moving = now.movingRods();
        if (moving == 0) {
            return NONE;
        }
        history.record(now);
        now.turnRound();
        return moving;
    }

    public int pass(int ticks) {
        if (ticks < 1 || ticks > MOST_TICKS_AT_ONCE) {
            return BAD_VALUE;
        }
        if (now.ticks + ticks > MOST_TICKS) {
            return NOT_POSSIBLE;
        }
        history.record(now);
        return letPass(ticks);
    }

    // ---- texts

    public int type(char character) {
        if (text.length >= MOST_SIGNS) {
            return FULL;
        }
        text.append(character);
        return text.length;
    }

    public int clearText() {
        int previous = text.length;
        text.length = 0;
        return previous;
    }

    public int perform() {
        int fault = text.fault();
        if (fault != Text.NO_FAULT) {
            return FAULT_BASE - fault;
        }
        int error = firstError();
        if (error != 0) {
            return error;
        }
        history.record(now);
        return doOrders();
    }

    // ---- history

    public int undo() {
        if (history.size == 0) {
            return NONE;
        }
        history.takeLatest(now);
        return history.size;
    }

    public int keep() {
        kept.copyFrom(now);
        isKept = true;
        return now.ticks;
    }

    public int restore() {
        if (!isKept) {
            return NONE;
        }
        history.record(now);
        now.copyFrom(kept);
        return now.ticks;
    }

    // ---- what is told

    public int rod(int rod, int what) {
        if (!now.hasRod(rod)) {
            return UNKNOWN;
        }
        switch (what) {
            case 0:
                return now.place[rod];
            case 1:
                return now.length[rod];
            case 2:
                return SPEED_BASE + now.speed[rod];
            case 3:
                return now.gap(rod);
            case 4:
                return now.rodToTheRight(rod);
            case 5:
                return now.clusterSize(rod);
            case 6:
                return now.leftmostOfCluster(rod);
            case 7:
                return WAY_BASE + now.way[rod];
            default:
                return BAD_VALUE;
        }
    }

    public int cover(int place) {
        if (!now.hasPlace(place)) {
            return UNKNOWN;
        }
        return now.rodThatCovers(place);
    }

    public int placeIn(int rod, int ticks) {
        if (!now.hasRod(rod)) {
            return UNKNOWN;
        }
        if (ticks < 0 || ticks > MOST_TICKS_AT_ONCE) {
            return BAD_VALUE;
        }
        motion.foresee(now, ticks);
        return now.placeBehind(rod, motion.way[rod]);
    }

    public int speedIn(int rod, int ticks) {
        if (!now.hasRod(rod)) {
            return UNKNOWN;
        }
        if (ticks < 0 || ticks > MOST_TICKS_AT_ONCE) {
            return BAD_VALUE;
        }
        // rods that touch exchange their speeds only when a tick begins
        if (ticks == 0) {
            return SPEED_BASE + now.speed[rod];
        }
        motion.foresee(now, ticks);
        return SPEED_BASE + motion.speed[rod];
    }

    public int meetings(int ticks, int what) {
        if (ticks < 1 || ticks > MOST_TICKS_AT_ONCE) {
            return BAD_VALUE;
        }
        if (what < 0 || what > 1) {
            return BAD_VALUE;
        }
        crossings.foresee(now, ticks);
        return what == 0 ? crossings.many : crossings.impulses;
    }

    public int moments(int ticks) {
        if (ticks < 1 || ticks > MOST_TICKS_OF_MOMENTS) {
            return BAD_VALUE;
        }
        return crossings.differentMoments(now, ticks);
    }

    public int next(int what) {
        if (what < 0 || what > 2) {
            return BAD_VALUE;
        }
        crossings.findFirst(now);
        if (crossings.firstMany == 0) {
            return NONE;
        }
        if (what == 0) {
            return crossings.firstUpper;
        }
        return what == 1 ? crossings.firstLower : crossings.firstMany;
    }

    public int count(int what) {
        switch (what) {
            case 0:
                return now.ringLength;
            case 1:
                return now.rods;
            case 2:
                return now.freeLength();
            case 3:
                return now.ticks;
            case 4:
                return now.meetings;
            case 5:
                return now.impulses;
            case 6:
                return SPEEDS_BASE + now.sumOfSpeeds();
            case 7:
                return now.sumOfSquares();
            case 8:
                return now.clusters();
            case 9:
                return now.greatestGap();
            case 10:
                return history.size;
            case 11:
                return text.length;
            default:
                return BAD_VALUE;
        }
    }

    private static boolean isSpeed(int speed) {
        return speed >= -GREATEST_SPEED && speed <= GREATEST_SPEED;
    }

    /** Moves the rods; answers how many meetings there were. */
    private int letPass(int ticks) {
        crossings.foresee(now, ticks);
        motion.foresee(now, ticks);
        for (int rod = 0; rod < now.rods; rod++) {
            now.place[rod] = now.placeBehind(rod, motion.way[rod]);
            now.way[rod] += motion.way[rod];
            now.speed[rod] = motion.speed[rod];
        }
        now.ticks += ticks;
        now.meetings += crossings.many;
        now.impulses += crossings.impulses;
        return crossings.many;
    }

    /**
     * The error of the first order that can't be done, or 0. No order changes which rods there are,
     * and ticks only add up, so that this is known before the first order is done.
     */
    private int firstError() {
        int ticks = now.ticks;
        for (int at = 0; at < text.length; at++) {
            if (text.orderAt(at) == Text.PASS) {
                ticks += text.ticksAt(at);
                if (ticks > MOST_TICKS) {
                    return NOT_POSSIBLE;
                }
            } else if (text.orderAt(at) == Text.SPEED && !now.hasRod(text.rodAt(at))) {
                return UNKNOWN;
            }
        }
        return 0;
    }

    /** Does the orders of a text without fault or error; answers how many meetings there were. */
    private int doOrders() {
        int many = 0;
        for (int at = 0; at < text.length; at++) {
            switch (text.orderAt(at)) {
                case Text.PASS:
                    many += letPass(text.ticksAt(at));
                    break;
                case Text.REVERSE:
                    now.turnRound();
                    break;
                case Text.SPEED:
                    int rod = text.rodAt(at);
                    if (now.hasRod(rod)) {
                        now.speed[rod] = text.speedAt(at);
                    }
                    break;
                default:
                    break;
            }
        }
        return many;
    }

    /** The ring, its rods, and the sums so far: what undo and the snapshot bring back. */
    private static final class State {
        int ringLength;
        int rods;
        int ticks;
        int meetings;
        int impulses;
        final int[] place;
        final int[] length;
        final int[] speed;
        final int[] way;

        State() {
            ringLength = FIRST_RING;
            place = new int[MOST_RODS];
            length = new int[MOST_RODS];
            speed = new int[MOST_RODS];
            way = new int[MOST_RODS];
        }

        void copyFrom(State other) {
            ringLength = other.ringLength;
            rods = other.rods;
            ticks = other.ticks;
            meetings = other.meetings;
            impulses = other.impulses;
            for (int rod = 0; rod < MOST_RODS; rod++) {
                place[rod] = other.place[rod];
                length[rod] = other.length[rod];
                speed[rod] = other.speed[rod];
                way[rod] = other.way[rod];
            }
        }

        boolean hasRod(int rod) {
            return rod >= 0 && rod < rods;
        }

        boolean hasPlace(int piece) {
            return piece >= 0 && piece < ringLength;
        }

        int freeLength() {
            int free = ringLength;
            for (int rod = 0; rod < rods; rod++) {
                free -= length[rod];
            }
            return free;
        }

        /** Whether a rod may be put there. */
        boolean hasRoom(int from, int pieces) {
            if (pieces >= freeLength()) {
                return false;
            }
            for (int piece = 0; piece < pieces; piece++) {
                if (rodThatCovers(onRing(from + piece)) != NONE) {
                    return false;
                }
            }
            return true;
        }

        /** Adds a rod behind the last number; answers its number. */
        int append(int from, int pieces, int newSpeed) {
            int rod = rods;
            if (rod < 0 || rod >= MOST_RODS) {
                return FULL;
            }
            place[rod] = from;
            length[rod] = pieces;
            speed[rod] = newSpeed;
            way[rod] = 0;
            rods = rod + 1;
            return rod;
        }

        /** Takes a rod away; the ones with greater numbers close up. */
        void drop(int gone) {
            for (int rod = gone; rod + 1 < rods; rod++) {
                place[rod] = place[rod + 1];
                length[rod] = length[rod + 1];
                speed[rod] = speed[rod + 1];
                way[rod] = way[rod + 1];
            }
            rods--;
        }

        void turnRound() {
            for (int rod = 0; rod < rods; rod++) {
                speed[rod] = -speed[rod];
            }
        }

        /** The place of a rod that has gone so far to the right (to the left below 0). */
        int placeBehind(int rod, int distance) {
            return onRing(place[rod] + distance);
        }

        int rodThatCovers(int piece) {
            for (int rod = 0; rod < rods; rod++) {
                if (onRing(piece - place[rod]) < length[rod]) {
                    return rod;
                }
            }
            return NONE;
        }

        /** How many places the left end of a rod lies to the right of that of another one. */
        int distance(int from, int to) {
            int ahead = place[to] - place[from];
            return ahead < 0 ? ahead + ringLength : ahead;
        }

        /** How many rods there are from one rod on, before another one to its right. */
        int rodsBetween(int from, int to) {
            int between = 0;
            for (int rod = 0; rod < rods; rod++) {
                if (distance(from, rod) < distance(from, to)) {
                    between++;
                }
            }
            return between;
        }

        /**
         * How many pieces that no rod covers lie from one rod to another one to its right; this is
         * how far the points lie apart if rods are thought of as points on a ring of the free length.
         */
        int freeBetween(int from, int to) {
            int far = distance(from, to);
            int free = far;
            for (int rod = 0; rod < rods; rod++) {
                if (distance(from, rod) < far) {
                    free -= length[rod];
                }
            }
            return free;
        }

        int gap(int rod) {
            int least = freeLength();
            for (int other = 0; other < rods; other++) {
                if (other != rod) {
                    least = Math.min(least, freeBetween(rod, other));
                }
            }
            return least;
        }

        int rodToTheRight(int rod) {
            int nearest = rod;
            int least = ringLength;
            for (int other = 0; other < rods; other++) {
                if (other != rod && distance(rod, other) < least) {
                    nearest = other;
                    least = distance(rod, other);
                }
            }
            return nearest;
        }

        int clusterSize(int rod) {
            int size = 0;
            for (int other = 0; other < rods; other++) {
                if (freeBetween(other, rod) == 0 || freeBetween(rod, other) == 0) {
                    size++;
                }
            }
            return size;
        }

        int leftmostOfCluster(int rod) {
            int leftmost = rod;
            int farthest = 0;
            for (int other = 0; other < rods; other++) {
                if (freeBetween(other, rod) == 0 && distance(other, rod) > farthest) {
                    leftmost = other;
                    farthest = distance(other, rod);
                }
            }
            return leftmost;
        }

        /** Free length is always left, so that each cluster ends at just one gap. */
        int clusters() {
            int ends = 0;
            for (int rod = 0; rod < rods; rod++) {
                if (gap(rod) > 0) {
                    ends++;
                }
            }
            return ends;
        }

        int greatestGap() {
            int greatest = 0;
            for (int rod = 0; rod < rods; rod++) {
                greatest = Math.max(greatest, gap(rod));
            }
            return greatest;
        }

        int movingRods() {
            int moving = 0;
            for (int rod = 0; rod < rods; rod++) {
                if (speed[rod] != 0) {
                    moving++;
                }
            }
            return moving;
        }

        int sumOfSpeeds() {
            int sum = 0;
            for (int rod = 0; rod < rods; rod++) {
                sum += speed[rod];
            }
            return sum;
        }

        int sumOfSquares() {
            int sum = 0;
            for (int rod = 0; rod < rods; rod++) {
                sum += speed[rod] * speed[rod];
            }
            return sum;
        }

        private int onRing(int anywhere) {
            return ringLength > 0 ? Math.floorMod(anywhere, ringLength) : 0;
        }
    }

    /**
     * Where rods go. Each rod is a point on a ring of the free length; the points go through each
     * other, and the rods, which keep their order, take the points in the order that these have then.
     */
    private static final class Motion {
        final int[] way;
        final int[] speed;
        private final int[] start;
        private final int[] end;

        Motion() {
            way = new int[MOST_RODS];
            speed = new int[MOST_RODS];
            start = new int[MOST_RODS];
            end = new int[MOST_RODS];
        }

        /** Finds the way of each rod in these ticks, and its speed behind them. */
        void foresee(State state, int ticks) {
            int free = state.freeLength();
            int rods = state.rods;
            if (free < 1 || rods < 1) {
                return;
            }
            int turns = movePoints(state, ticks, free);
            for (int rod = 0; rod < rods; rod++) {
                // a point that goes over the ring's seam moves the order on by one
                int rank = state.rodsBetween(0, rod) + turns;
                int lap = Math.floorDiv(rank, rods);
                int rankInLap = Math.floorMod(rank, rods);
                for (int point = 0; point < rods; point++) {
                    if (rankAtEnd(state, point) == rankInLap) {
                        way[rod] = end[point] + lap * free - start[rod];
                        speed[rod] = state.speed[point];
                    }
                }
            }
        }

        /** Moves each point; answers how often points went over the seam to the right, in all. */
        private int movePoints(State state, int ticks, int free) {
            int turns = 0;
            if (free < 1) {
                return turns;
            }
            for (int point = 0; point < state.rods; point++) {
                start[point] = state.freeBetween(0, point);
                int far = start[point] + state.speed[point] * ticks;
                end[point] = Math.floorMod(far, free);
                turns += Math.floorDiv(far, free);
            }
            return turns;
        }

        /** Of points at the same place the slower one is the left one: they have exchanged. */
        private int rankAtEnd(State state, int point) {
            int rank = 0;
            for (int other = 0; other < state.rods; other++) {
                if (isBefore(state, other, point)) {
                    rank++;
                }
            }
            return rank;
        }

        private boolean isBefore(State state, int one, int other) {
            if (end[one] != end[other]) {
                return end[one] < end[other];
            }
            if (state.speed[one] != state.speed[other]) {
                return state.speed[one] < state.speed[other];
            }
            return one < other;
        }
    }

    /**
     * When rods meet. Two rods' points go through each other just as often as these two speeds are
     * exchanged, also where more than two meet; so each pair of points is looked at for itself.
     */
    private static final class Crossings {
        int many;
        int impulses;
        int firstUpper;
        int firstLower;
        int firstMany;
        // one row for each lower number, in it a bit for each upper number (at most 3 * 18)
        private final long[] seen;

        Crossings() {
            seen = new long[2 * GREATEST_SPEED + 1];
        }

        /** Finds how many meetings there are in these ticks, and the sum of their impulses. */
        void foresee(State state, int ticks) {
            many = 0;
            impulses = 0;
            for (int left = 0; left < state.rods; left++) {
                for (int right = 0; right < state.rods; right++) {
                    int times = crossingsOf(state, left, right, ticks);
                    many += times;
                    impulses += times * (state.speed[left] - state.speed[right]);
                }
            }
        }

        int differentMoments(State state, int ticks) {
            for (int lower = 0; lower < seen.length; lower++) {
                seen[lower] = 0L;
            }
            for (int left = 0; left < state.rods; left++) {
                for (int right = 0; right < state.rods; right++) {
                    markMoments(state, left, right, ticks);
                }
            }
            int moments = 0;
            for (int lower = 0; lower < seen.length; lower++) {
                moments += Long.bitCount(seen[lower]);
            }
            return moments;
        }

        /** Finds the first moment at which any two meet; firstMany is 0 if there is none. */
        void findFirst(State state) {
            firstUpper = 0;
            firstLower = 1;
            firstMany = 0;
            for (int left = 0; left < state.rods; left++) {
                for (int right = 0; right < state.rods; right++) {
                    int closing = state.speed[left] - state.speed[right];
                    if (closing > 0) {
                        takeIfFirst(state.freeBetween(left, right), closing);
                    }
                }
            }
            int divisor = commonDivisor(firstUpper, firstLower);
            if (divisor > 0) {
                firstUpper /= divisor;
                firstLower /= divisor;
            }
        }

        private void takeIfFirst(int upper, int lower) {
            int order = Integer.compare(upper * firstLower, firstUpper * lower);
            if (firstMany == 0 || order < 0) {
                firstUpper = upper;
                firstLower = lower;
                firstMany = 1;
            } else if (order == 0) {
                firstMany++;
            }
        }

        /** How often the left one's point catches up with the right one's. */
        private static int crossingsOf(State state, int left, int right, int ticks) {
            int closing = state.speed[left] - state.speed[right];
            int free = state.freeLength();
            if (closing <= 0 || free < 1) {
                return 0;
            }
            int behindFirst = closing * ticks - state.freeBetween(left, right);
            return behindFirst < 0 ? 0 : behindFirst / free + 1;
        }

        private void markMoments(State state, int left, int right, int ticks) {
            int closing = state.speed[left] - state.speed[right];
            int times = crossingsOf(state, left, right, ticks);
            int upper = state.freeBetween(left, right);
            int free = state.freeLength();
            for (int time = 0; time < times; time++) {
                mark(upper, closing);
                upper += free;
            }
        }

        private void mark(int upper, int lower) {
            int divisor = commonDivisor(upper, lower);
            if (divisor < 1) {
                return;
            }
            int row = lower / divisor;
            if (row >= 0 && row < seen.length) {
                seen[row] |= 1L << (upper / divisor);
            }
        }

        private static int commonDivisor(int one, int other) {
            int divisor = one;
            int rest = other;
            // far fewer steps are needed for numbers up to 1000
            for (int step = 0; step < 100 && rest != 0; step++) {
                int newRest = divisor % rest;
                divisor = rest;
                rest = newRest;
            }
            return divisor;
        }
    }

    /** The latest states, the oldest one first. */
    private static final class History {
        int size;
        private final State[] states;

        History() {
            states = new State[MOST_STATES];
            for (int at = 0; at < MOST_STATES; at++) {
                states[at] = new State();
            }
        }

        void record(State state) {
            if (size >= MOST_STATES) {
                dropOldest();
            }
            copy(state, states[size]);
            size++;
        }

        void takeLatest(State state) {
            if (size > 0) {
                size--;
                copy(states[size], state);
            }
        }

        private void dropOldest() {
            for (int at = 0; at + 1 < MOST_STATES; at++) {
                copy(states[at + 1], states[at]);
            }
            size = MOST_STATES - 1;
        }

        private static void copy(State from, State to) {
            if (from != null && to != null) {
                to.copyFrom(from);
            }
        }
    }

    /** The text, its fault, and its orders. */
    private static final class Text {
        static final int NO_FAULT = -1;

        static final char PASS = 'p';
        static final char REVERSE = 'r';
        static final char SPEED = 's';
        private static final char NO_SIGN = (char) 0;

        // what may stand at a place of the text
        private static final int NOTHING = 0;
        private static final int ORDER = 1;
        private static final int TICKS = 2;
        private static final int MORE_TICKS = 3;
        private static final int ROD = 4;
        private static final int EQUALS = 5;
        private static final int SPEED_OR_MINUS = 6;
        private static final int SPEED_BELOW_0 = 7;
        private static final int END = 8;

        int length;
        private final char[] signs;

        Text() {
            signs = new char[MOST_SIGNS];
        }

        void append(char sign) {
            if (length >= 0 && length < signs.length) {
                signs[length] = sign;
                length++;
            }
        }

        int fault() {
            int awaited = ORDER;
            for (int at = 0; at < length; at++) {
                awaited = awaitedBehind(awaited, signAt(at));
                if (awaited == NOTHING) {
                    return at;
                }
            }
            return awaited == END || awaited == MORE_TICKS ? NO_FAULT : length;
        }

        /** What is awaited behind a sign; NOTHING if the sign is not what was awaited. */
        private static int awaitedBehind(int awaited, char sign) {
            switch (awaited) {
                case ORDER:
                    return awaitedBehindLetter(sign);
                case TICKS:
                    return isDigit(sign, '1') ? MORE_TICKS : NOTHING;
                case MORE_TICKS:
                    if (isDigit(sign, '0')) {
                        return END;
                    }
                    return sign == ';' ? ORDER : NOTHING;
                case ROD:
                    return isDigit(sign, '0') ? EQUALS : NOTHING;
                case EQUALS:
                    return sign == '=' ? SPEED_OR_MINUS : NOTHING;
                case SPEED_OR_MINUS:
                    if (sign == '-') {
                        return SPEED_BELOW_0;
                    }
                    return isDigit(sign, '0') ? END : NOTHING;
                case SPEED_BELOW_0:
                    return isDigit(sign, '1') ? END : NOTHING;
                case END:
                    return sign == ';' ? ORDER : NOTHING;
                default:
                    return NOTHING;
            }
        }

        private static int awaitedBehindLetter(char letter) {
            switch (letter) {
                case PASS:
                    return TICKS;
                case REVERSE:
                    return END;
                case SPEED:
                    return ROD;
                default:
                    return NOTHING;
            }
        }

        /** The letter of the order that begins there, or NO_SIGN if none does. */
        char orderAt(int at) {
            return at == 0 || signAt(at - 1) == ';' ? signAt(at) : NO_SIGN;
        }

        int ticksAt(int order) {
            int first = digitAt(order + 1);
            if (isDigit(signAt(order + 2), '0')) {
                return 10 * first + digitAt(order + 2);
            }
            return first;
        }

        int rodAt(int order) {
            return digitAt(order + 1);
        }

        int speedAt(int order) {
            if (signAt(order + 3) == '-') {
                return -digitAt(order + 4);
            }
            return digitAt(order + 3);
        }

        private int digitAt(int at) {
            return signAt(at) - '0';
        }

        private char signAt(int at) {
            return at >= 0 && at < length && at < signs.length ? signs[at] : NO_SIGN;
        }

        private static boolean isDigit(char sign, char least) {
            return sign >= least && sign <= '9';
        }
    }
}
