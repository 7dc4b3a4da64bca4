import java.util.ArrayList;
import java.util.List;
import java.util.TreeSet;

/** The whole face a second time, in the plainest way: against it ModelTests holds the class, call by call. */
final class PlainNets {
    private final PlainSlot[] slots = new PlainSlot[2];
    private final List<PlainSlot[]> acts = new ArrayList<>();
    private String tape = "";
    private int fault = 0;
    private int place = -1;

    PlainNets() {
        for (int slot = 0; slot < 2; slot++) {
            slots[slot] = new PlainSlot(new int[1][1], List.of("0"), new TreeSet<>());
        }
    }

    int feed(int a, int b, int c, int d, int e) {
        if (tape.length() + 20 > 300) {
            return -4;
        }
        StringBuilder more = new StringBuilder(tape);
        for (int four : new int[] {a, b, c, d, e}) {
            for (int shift = 24; shift >= 0; shift -= 8) {
                more.append((char) (four >> shift & 255));
            }
        }
        tape = more.toString();
        return tape.length();
    }

    int tell(int slot, int n) {
        if (isNone(slot)) {
            return -2;
        }
        if (n < 0 || n > tape.length()) {
            return -3;
        }
        PlainSlot held = slots[slot];
        PlainReader read = new PlainReader(tape.substring(0, n), held.table, held.steps);
        tape = "";
        fault = read.fault;
        place = read.place;
        if (fault != 0) {
            return -30 - fault;
        }
        List<String> names = held.names;
        if (read.elements != null) {
            names = new ArrayList<>();
            for (int x = 0; x < read.elements.size(); x++) {
                names.add(read.name(x));
            }
        }
        acts.clear();
        slots[slot] = new PlainSlot(read.table(), names, new TreeSet<>(read.steps));
        return slots[slot].order;
    }

    int fault(int what) {
        return what == 0 ? fault : what == 1 ? place : -1;
    }

    private boolean isNone(int slot) {
        return slot != 0 && slot != 1;
    }

    private boolean isNone(int slot, int x) {
        return isNone(slot) || x < 0 || x >= slots[slot].order;
    }

    private boolean areNoBits(int slot, int set) {
        return set < 0 || set >= 1 << slots[slot].order;
    }

    private void act(int slot, PlainSlot then) {
        acts.add(slots.clone());
        if (acts.size() > 8) {
            acts.remove(0);
        }
        slots[slot] = then;
    }

    int step(int slot, int x) {
        if (isNone(slot, x) || x == 0) {
            return -2;
        }
        TreeSet<Integer> steps = new TreeSet<>(slots[slot].steps);
        boolean becomesOne = steps.add(x);
        if (!becomesOne) {
            steps.remove(x);
        }
        act(slot, slots[slot].withSteps(steps));
        return becomesOne ? 1 : 0;
    }

    int both(int slot) {
        if (isNone(slot)) {
            return -2;
        }
        act(slot, slots[slot].withSteps(slots[slot].stepsAndInverses()));
        return slots[slot].steps.size();
    }

    int quotient(int slot, int set) {
        if (isNone(slot)) {
            return -2;
        }
        if (areNoBits(slot, set)) {
            return -3;
        }
        if (slots[slot].kind(set) != 2) {
            return -5;
        }
        act(slot, slots[slot].quotient(set));
        return slots[slot].order;
    }

    int undo() {
        if (acts.isEmpty()) {
            return -5;
        }
        PlainSlot[] before = acts.remove(acts.size() - 1);
        slots[0] = before[0];
        slots[1] = before[1];
        return acts.size();
    }

    int size(int slot, int what) {
        if (isNone(slot) || what < 0 || what > 6) {
            return -2;
        }
        PlainSlot it = slots[slot];
        return switch (what) {
            case 0 -> it.order;
            case 1 -> it.steps.size();
            case 2 -> it.centre();
            case 3 -> it.classes();
            case 4 -> it.subgroups().size();
            case 5 -> it.derived();
            default -> it.multipleOfPeriods();
        };
    }

    int product(int slot, int x, int y) {
        return isNone(slot, x) || isNone(slot, y) ? -2 : slots[slot].table[x][y];
    }

    int element(int slot, int x, int what) {
        if (isNone(slot, x) || what < 0 || what > 3) {
            return -2;
        }
        PlainSlot it = slots[slot];
        return switch (what) {
            case 0 -> it.inverse(x);
            case 1 -> it.period(x);
            case 2 -> it.steps.contains(x) ? 1 : 0;
            default -> Integer.bitCount(it.classOf(x));
        };
    }

    int classOf(int slot, int x) {
        return isNone(slot, x) ? -2 : slots[slot].classOf(x);
    }

    int generated(int slot, int set) {
        return isNone(slot) ? -2 : areNoBits(slot, set) ? -3 : slots[slot].generated(set);
    }

    int subgroup(int slot, int k) {
        if (isNone(slot)) {
            return -2;
        }
        if (k < 0) {
            return -3;
        }
        List<Integer> all = slots[slot].subgroups();
        return k < all.size() ? all.get(k) : -1;
    }

    int kind(int slot, int set) {
        return isNone(slot) ? -2 : areNoBits(slot, set) ? -3 : slots[slot].kind(set);
    }

    int maps(int slot) {
        return isNone(slot) ? -2 : slots[slot].maps();
    }

    int mapped(int x) {
        if (isNone(0, x)) {
            return -2;
        }
        int[] row = slots[0].firstGroupMap(slots[1]);
        return row == null ? -1 : row[x];
    }

    int far(int slot, int g, int h) {
        return isNone(slot, g) || isNone(slot, h) ? -2 : slots[slot].far(g, h);
    }

    int sphere(int slot, int k) {
        if (isNone(slot)) {
            return -2;
        }
        if (k < -1) {
            return -3;
        }
        return k == -1 ? slots[slot].greatestSphere() : slots[slot].sphere(k);
    }

    int way(int slot, int h, int i) {
        if (isNone(slot, h)) {
            return -2;
        }
        if (i < 0) {
            return -3;
        }
        List<Integer> way = slots[slot].way(h);
        return i < way.size() ? way.get(i) : -1;
    }

    int ring(int slot) {
        return isNone(slot) ? -2 : slots[slot].ring();
    }

    int parts(int slot) {
        return isNone(slot) ? -2 : slots[slot].parts();
    }

    long symmetries(int slot) {
        return isNone(slot) ? -2 : slots[slot].symmetries();
    }

    int alikeTo(int slot, int x) {
        return isNone(slot, x) ? -2 : slots[slot].alikeTo(x);
    }

    int regular(int slot, int what) {
        if (isNone(slot) || what < 0 || what > 3) {
            return -2;
        }
        PlainSlot it = slots[slot];
        return switch (what) {
            case 0 -> it.allArcsAlike() ? 1 : 0;
            case 1 -> it.allFarAlike() ? 1 : 0;
            case 2 -> it.isNormal() ? 1 : 0;
            default -> it.own();
        };
    }

    int alike(int x) {
        if (isNone(0, x)) {
            return -2;
        }
        int[] row = slots[0].firstNetworkMap(slots[1]);
        return row == null ? -1 : row[x];
    }

    int other() {
        return slots[0].other(slots[1]);
    }

    int name(int slot, int x, int i) {
        if (isNone(slot, x)) {
            return -2;
        }
        if (i < 0) {
            return -3;
        }
        String name = slots[slot].names.get(x);
        return i < name.length() ? name.charAt(i) : -1;
    }

    int count(int what) {
        return what == 0 ? acts.size() : what == 1 ? tape.length() : -1;
    }
}
