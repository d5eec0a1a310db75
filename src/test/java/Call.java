import java.util.Arrays;

/** One call by its name and arguments, for the program and for the model alike. */
record Call(String name, int... with) {
    int on(RingRods rods) {
        switch (name) {
            case "setRing": return rods.setRing(with[0]);
            case "addRod": return rods.addRod(with[0], with[1], with[2]);
            case "removeRod": return rods.removeRod(with[0]);
            case "setSpeed": return rods.setSpeed(with[0], with[1]);
            case "reverse": return rods.reverse();
            case "pass": return rods.pass(with[0]);
            case "type": return rods.type((char) with[0]);
            case "clearText": return rods.clearText();
            case "perform": return rods.perform();
            case "undo": return rods.undo();
            case "keep": return rods.keep();
            case "restore": return rods.restore();
            case "rod": return rods.rod(with[0], with[1]);
            case "cover": return rods.cover(with[0]);
            case "placeIn": return rods.placeIn(with[0], with[1]);
            case "speedIn": return rods.speedIn(with[0], with[1]);
            case "meetings": return rods.meetings(with[0], with[1]);
            case "moments": return rods.moments(with[0]);
            case "next": return rods.next(with[0]);
            case "count": return rods.count(with[0]);
            default: throw new IllegalArgumentException(name);
        }
    }

    int on(Model model) {
        switch (name) {
            case "setRing": return model.setRing(with[0]);
            case "addRod": return model.addRod(with[0], with[1], with[2]);
            case "removeRod": return model.removeRod(with[0]);
            case "setSpeed": return model.setSpeed(with[0], with[1]);
            case "reverse": return model.reverse();
            case "pass": return model.pass(with[0]);
            case "type": return model.type((char) with[0]);
            case "clearText": return model.clearText();
            case "perform": return model.perform();
            case "undo": return model.undo();
            case "keep": return model.keep();
            case "restore": return model.restore();
            case "rod": return model.rod(with[0], with[1]);
            case "cover": return model.cover(with[0]);
            case "placeIn": return model.placeIn(with[0], with[1]);
            case "speedIn": return model.speedIn(with[0], with[1]);
            case "meetings": return model.meetings(with[0], with[1]);
            case "moments": return model.moments(with[0]);
            case "next": return model.next(with[0]);
            case "count": return model.count(with[0]);
            default: throw new IllegalArgumentException(name);
        }
    }

    /** Whether the call may change anything. */
    boolean changes() {
        switch (name) {
            case "rod": case "cover": case "placeIn": case "speedIn":
            case "meetings": case "moments": case "next": case "count":
                return false;
            default:
                return true;
        }
    }

    @Override
    public String toString() {
        return name + Arrays.toString(with);
    }
}
