import java.util.ArrayList;
import java.util.List;
import java.util.Random;

/** Runs of random calls: none throws, what was found out earlier never goes stale, the room stays small. */
public final class FuzzTests {
    private static final String[] TEXTS = {
        "group c 6;steps 1;", "group d 4;steps 1 4;both;", "group a;steps 1 3;", "perms 12340,13024;steps 1 2;",
        "group c 2 x c 2 x c 2 x c 2;steps 1 2 4 8;", "group q 2;steps 1 4;", "group d 3;steps 3 4;", "both;",
        "steps 1 2;", "group c 20;steps 1 19 10;", "group d 10;steps 1 9 10;", "group c 3 x c 6;", "", "group e;",
        "group c 0;", "group a x a;", "perms 1203,0132;", "group c 3;steps 3;", "group c 4 x c 4;steps 1 3 4 12;"
    };
    private static final String[] PARTS = {
        "group ", "perms ", "steps ", "both", ";", ",", " x ", "c ", "d ", "q ", "a", "1", "2", "3", "12", "10", "0123",
        "102", "20", " ", "x", "!", "100", "5;", "c 2", "x c 2"
    };
    private static final int[] ODD = {
        Integer.MIN_VALUE, -1000, -3, -2, -1, 0, 1, 2, 3, 5, 7, 19, 20, 21, 31, 32, 33, 63, 64, 1 << 20, Integer.MAX_VALUE
    };

    public static void main(String[] args) {
        for (int seed = 0; seed < 400; seed++) {
            anyCalls(new Random(seed));
        }
        for (int seed = 0; seed < 60; seed++) {
            nothingGoesStale(new Random(seed));
        }
        roomStaysSmall();
        Check.end();
    }

    private static int odd(Random random) {
        int n = random.nextInt(10);
        return n < 6 ? random.nextInt(21) : n < 9 ? ODD[random.nextInt(ODD.length)] : random.nextInt();
    }

    private static int oddSlot(Random random) {
        return random.nextInt(12) == 0 ? odd(random) : random.nextInt(2);
    }

    private static String randomText(Random random) {
        StringBuilder text = new StringBuilder();
        int many = random.nextInt(14);
        for (int i = 0; i < many; i++) {
            text.append(PARTS[random.nextInt(PARTS.length)]);
        }
        return text.toString();
    }

    private static void anyCalls(Random random) {
        StepNets x = new StepNets();
        for (int i = 0; i < 400; i++) {
            int n = random.nextInt(40);
            if (n == 0) {
                Check.tell(x, random.nextInt(2), TEXTS[random.nextInt(TEXTS.length)]);
            } else if (n == 1) {
                faultIsSound(x, randomText(random));
            } else {
                long answer = anyCall(x, n % 28, random);
                Check.holds("no other code", answer >= -5 || answer <= -31 && answer >= -33);
            }
        }
    }

    private static void faultIsSound(StepNets x, String text) {
        if (x.count(1) > 0) {
            x.tell(0, 0);
        }
        int order = x.size(0, 0);
        int answer = Check.tell(x, 0, text);
        int found = x.fault(0);
        Check.holds("a fault or none: " + text, found == 0 ? answer == x.size(0, 0) : answer == -30 - found);
        Check.holds("nothing changes: " + text, found == 0 || x.size(0, 0) == order);
        int place = x.fault(1);
        Check.holds("place: " + text, found == 0 ? place == -1 : place >= 0 && place <= text.length());
    }

    private static long anyCall(StepNets x, int which, Random r) {
        int slot = oddSlot(r);
        int a = odd(r);
        int b = odd(r);
        switch (which) {
            case 0: return x.feed(r.nextInt(), r.nextInt(), r.nextInt(), r.nextInt(), r.nextInt());
            case 1: return x.tell(slot, r.nextInt(4) == 0 ? a : 0);
            case 2: return x.fault(a);
            case 3: return x.step(slot, a);
            case 4: return x.both(slot);
            case 5: return x.quotient(slot, r.nextInt(4) == 0 ? x.subgroup(slot, r.nextInt(8)) : r.nextInt(1 << 21));
            case 6: return x.undo();
            case 7: return x.size(slot, a);
            case 8: return x.product(slot, a, b);
            case 9: return x.element(slot, a, b);
            case 10: return x.classOf(slot, a);
            case 11: return x.generated(slot, a);
            case 12: return x.subgroup(slot, a);
            case 13: return x.kind(slot, a);
            case 14: return x.maps(slot);
            case 15: return x.mapped(a);
            case 16: return x.far(slot, a, b);
            case 17: return x.sphere(slot, a);
            case 18: return x.way(slot, a, b);
            case 19: return x.ring(slot);
            case 20: return x.parts(slot);
            case 21: return x.symmetries(slot);
            case 22: return x.alikeTo(slot, a);
            case 23: return x.regular(slot, a);
            case 24: return x.alike(a);
            case 25: return x.other();
            case 26: return x.name(slot, a, b);
            default: return x.count(a);
        }
    }

    /** One of the calls that change something, told by five numbers so that it can be done again. */
    private static void change(StepNets x, int[] act) {
        switch (act[0]) {
            case 0 -> Check.tell(x, act[1], TEXTS[act[2]]);
            case 1 -> x.both(act[1]);
            case 2 -> x.quotient(act[1], x.subgroup(act[1], act[2]));
            case 3, 4 -> x.undo();
            default -> x.step(act[1], act[2]);
        }
    }

    private static List<Long> answers(StepNets x) {
        List<Long> all = new ArrayList<>();
        for (int slot = 0; slot < 2; slot++) {
            for (int what = 0; what < 7; what++) {
                all.add((long) x.size(slot, what));
                all.add((long) x.regular(slot, what));
            }
            all.add((long) x.maps(slot));
            all.add((long) x.ring(slot));
            all.add((long) x.parts(slot));
            all.add(x.symmetries(slot));
            all.add((long) x.sphere(slot, -1));
            for (int i = 0; i < x.size(slot, 0); i++) {
                all.add((long) x.far(slot, 0, i));
                all.add((long) x.alikeTo(slot, i));
                all.add((long) x.subgroup(slot, i));
            }
        }
        for (int i = 0; i < x.size(0, 0); i++) {
            all.add((long) x.mapped(i));
            all.add((long) x.alike(i));
        }
        all.add((long) x.other());
        all.add((long) x.count(0));
        return all;
    }

    private static void nothingGoesStale(Random random) {
        List<int[]> acts = new ArrayList<>();
        StepNets asked = new StepNets();
        for (int i = 0; i < 30; i++) {
            int which = random.nextInt(12);
            int[] act = {which, random.nextInt(2), which == 0 ? random.nextInt(TEXTS.length) : 1 + random.nextInt(8)};
            acts.add(act);
            change(asked, act);
            List<Long> now = answers(asked);
            StepNets fresh = new StepNets();
            for (int[] again : acts) {
                change(fresh, again);
            }
            Check.holds("same answers from a fresh object", now.equals(answers(fresh)));
        }
    }

    /** What 512 of the dearest calls make together, in bytes, far below the room there is. */
    private static void roomStaysSmall() {
        com.sun.management.ThreadMXBean threads =
            (com.sun.management.ThreadMXBean) java.lang.management.ManagementFactory.getThreadMXBean();
        StepNets x = Check.told("group c 2 x c 2 x c 2 x c 2;steps 1 2 4 8;", "group c 4 x c 4;steps 1 3 4 12;");
        answers(x);
        long before = threads.getThreadAllocatedBytes(Thread.currentThread().getId());
        for (int i = 0; i < 85; i++) {
            x.quotient(0, 1);
            x.size(0, 4);
            x.symmetries(0);
            x.alike(1);
            x.other();
            x.mapped(1);
        }
        long made = threads.getThreadAllocatedBytes(Thread.currentThread().getId()) - before;
        Check.holds("510 calls make " + made + " bytes", made < 2000000);
    }
}
