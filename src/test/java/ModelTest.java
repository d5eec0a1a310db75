import java.util.Random;

/** Many runs of calls, each answer compared with the model's. */
final class ModelTest {
    private static final int RUNS = 1500;
    // a run has at most 512 calls; one round has fewer than 170
    private static final int LAST_ROUND = 340;

    private final Checks checks = new Checks();
    private Random random;
    private RingRods rods;
    private Model model;
    private String told;
    private int calls;

    public static void main(String[] args) {
        ModelTest test = new ModelTest();
        for (int run = 0; run < RUNS; run++) {
            test.run(run);
        }
        test.checks.end();
    }

    private void run(int seed) {
        random = new Random(seed);
        rods = new RingRods();
        model = new Model();
        calls = 0;
        told = "run " + seed + " at first: ";
        // small rings, for many rods that touch; some very fast, so that points go round often
        int ring = seed % 3 == 0 ? 20 + random.nextInt(6) : 20 + random.nextInt(seed % 3 == 1 ? 60 : 981);
        due("setRing " + ring, rods.setRing(ring), model.setRing(ring));
        if (seed % 5 == 0) {
            fill();
        }
        for (int round = 0; calls <= LAST_ROUND; round++) {
            told = "run " + seed + " call " + calls + ": ";
            act(random.nextInt(40));
            ask();
            if (round % 12 == 5) {
                askAll();
            }
        }
    }

    private void due(String call, int got, int want) {
        calls++;
        checks.due(told + call, got, want);
    }

    /** As many rods as there is room for, one behind the other. */
    private void fill() {
        int place = random.nextInt(model.now.ring);
        for (int rod = 0; rod < 8; rod++) {
            int most = (model.now.ring - 1) / 8;
            int length = 1 + random.nextInt(Math.min(20, most));
            int speed = random.nextInt(19) - 9;
            add(place % model.now.ring, length, speed);
            place += length + (random.nextInt(4) == 0 ? 1 : 0);
        }
    }

    private void add(int place, int length, int speed) {
        due("addRod " + place + " " + length + " " + speed,
            rods.addRod(place, length, speed), model.addRod(place, length, speed));
    }

    private int anyRod() {
        return random.nextInt(model.now.rods.size() + 2) - (random.nextInt(9) == 0 ? 1 : 0);
    }

    private int anyTicks() {
        int kind = random.nextInt(12);
        if (kind == 0) {
            return random.nextInt(106) - 2;
        }
        return kind < 9 ? 1 + random.nextInt(5) : 1 + random.nextInt(25);
    }

    private void act(int kind) {
        if (kind < 12) {
            int place = random.nextInt(model.now.ring + 2) - 1;
            int length = random.nextInt(15) == 0 ? random.nextInt(23) : 1 + random.nextInt(6);
            int speed = random.nextInt(20) == 0 ? random.nextInt(25) - 12 : random.nextInt(19) - 9;
            add(place, length, speed);
        } else if (kind < 14) {
            int rod = anyRod();
            due("removeRod " + rod, rods.removeRod(rod), model.removeRod(rod));
        } else if (kind < 19) {
            int rod = anyRod();
            int speed = random.nextInt(21) - 10;
            due("setSpeed " + rod + " " + speed, rods.setSpeed(rod, speed), model.setSpeed(rod, speed));
        } else if (kind < 21) {
            due("reverse", rods.reverse(), model.reverse());
        } else if (kind < 30) {
            int ticks = anyTicks();
            due("pass " + ticks, rods.pass(ticks), model.pass(ticks));
        } else if (kind < 34) {
            performSome();
        } else if (kind < 36) {
            due("undo", rods.undo(), model.undo());
        } else if (kind < 37) {
            due("keep", rods.keep(), model.keep());
        } else if (kind < 38) {
            due("restore", rods.restore(), model.restore());
        } else {
            int ring = 18 + random.nextInt(5);
            due("setRing " + ring, rods.setRing(ring), model.setRing(ring));
        }
    }

    private void performSome() {
        due("clearText", rods.clearText(), model.clearText());
        int orders = 1 + random.nextInt(5);
        StringBuilder text = new StringBuilder();
        for (int order = 0; order < orders; order++) {
            text.append(order == 0 ? "" : ";");
            int kind = random.nextInt(3);
            if (kind == 0) {
                text.append("p").append(1 + random.nextInt(14));
            } else if (kind == 1) {
                text.append("r");
            } else {
                int rod = Math.max(0, anyRod() - 1);
                text.append("s").append(rod).append("=").append(random.nextInt(19) - 9);
            }
        }
        if (random.nextInt(3) == 0) {
            String signs = "prs;=-0123456789x ";
            text.insert(random.nextInt(text.length() + 1), signs.charAt(random.nextInt(signs.length())));
        }
        for (int at = 0; at < text.length(); at++) {
            due("type", rods.type(text.charAt(at)), model.type(text.charAt(at)));
        }
        due("perform " + text, rods.perform(), model.perform());
    }

    private void ask() {
        int rod = anyRod();
        int ticks = anyTicks();
        int what = random.nextInt(15) - 1;
        due("rod " + rod + " " + what, rods.rod(rod, what), model.rod(rod, what));
        due("placeIn " + rod + " " + ticks, rods.placeIn(rod, ticks), model.placeIn(rod, ticks));
        due("speedIn " + rod + " " + ticks, rods.speedIn(rod, ticks), model.speedIn(rod, ticks));
        due("meetings " + ticks, rods.meetings(ticks, what), model.meetings(ticks, what));
        due("moments", rods.moments(what), model.moments(what));
        due("count " + what, rods.count(what), model.count(what));
    }

    private void askAll() {
        for (int what = 0; what < 12; what++) {
            due("count " + what, rods.count(what), model.count(what));
        }
        for (int what = 0; what < 3; what++) {
            due("next " + what, rods.next(what), model.next(what));
            due("moments " + what, rods.moments(what + 1), model.moments(what + 1));
        }
        for (int what = 0; what < 2; what++) {
            due("meetings of 3, " + what, rods.meetings(3, what), model.meetings(3, what));
        }
        for (int rod = 0; rod < model.now.rods.size(); rod++) {
            for (int what = 0; what < 8; what++) {
                due("rod " + rod + " " + what, rods.rod(rod, what), model.rod(rod, what));
            }
            due("speedIn " + rod, rods.speedIn(rod, 0), model.speedIn(rod, 0));
            due("placeIn " + rod, rods.placeIn(rod, 0), model.placeIn(rod, 0));
        }
        for (int look = 0; look < 20; look++) {
            int place = random.nextInt(model.now.ring + 2) - 1;
            due("cover " + place, rods.cover(place), model.cover(place));
        }
    }
}
