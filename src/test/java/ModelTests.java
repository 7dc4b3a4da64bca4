import java.util.Random;

/** Whole runs of calls at random, on the class and on PlainNets: each answer is the same. */
public final class ModelTests {
    private static final int RUNS = 80;
    private static final int CALLS = 512;
    private static final String[] GROUPS = {
        "group c 6;", "group d 3;", "group c 4;", "group c 2 x c 2;", "group d 4;", "group q 2;", "group c 8;",
        "group c 2 x c 4;", "group c 2 x c 2 x c 2;", "perms 1230,0321;", "group a;", "perms 1203,1032;", "group d 6;",
        "group q 3;", "group c 12;", "group c 3 x c 3;", "group c 9;", "group d 5;", "group c 10;", "group d 1;",
        "group c 1;", "perms 10;", "perms 0123;", "group c 16;", "group c 4 x c 4;", "group q 4;", "group d 8;",
        "group d 4 x c 2;", "group c 2 x c 2 x c 2 x c 2;", "group c 3 x d 3;", "group d 9;", "group c 20;", "group d 10;",
        "group q 5;", "perms 12340,13024;", "perms 120345,012453,021354;", "group c 19;", "group c 10 x c 2;"
    };
    private static final String[] AT_FAULT = {
        "group c 5 x c 5;", "perms 1230,1023;", "group c 21;", "steps 0;", "both;group a;", "steps 1", "group d 3;steps 6;",
        "&", "perms 120,1023;", "group c 3,"
    };
    private static final int[] ODD = {
        Integer.MIN_VALUE, -1000, -3, -2, -1, 0, 20, 21, 31, 32, 33, 64, 1 << 20, (1 << 20) - 1, 300, 301, Integer.MAX_VALUE
    };

    private static final String[] MUST_COME_UP = {"mapped", "alike(", "other", "quotient", "undo", "way", "ring", "tell "};
    private static final int[] CAME_UP = new int[MUST_COME_UP.length];

    private final Random random;
    private final StepNets x = new StepNets();
    private final PlainNets y = new PlainNets();
    private final String run;
    private int calls = 0;

    private ModelTests(int seed) {
        random = new Random(seed);
        run = "run " + seed;
    }

    public static void main(String[] args) {
        for (int seed = 0; seed < RUNS; seed++) {
            new ModelTests(seed).go();
        }
        for (int i = 0; i < CAME_UP.length; i++) {
            Check.holds(MUST_COME_UP[i] + " answered what isn't refused, " + CAME_UP[i] + " times", CAME_UP[i] > RUNS);
        }
        Check.end();
    }

    private void go() {
        while (calls < CALLS - 40) {
            int which = random.nextInt(35);
            if (which == 34) {
                actsAndUndone();
            } else if (which < 2) {
                text(random.nextInt(2));
            } else if (which < 5) {
                likeNetworks();
            } else if (which < 10) {
                change();
            } else if (which < 22) {
                ask();
            } else {
                askOfNetworks();
            }
        }
    }

    private void same(String call, long got, long want) {
        calls++;
        for (int i = 0; i < CAME_UP.length; i++) {
            CAME_UP[i] += call.startsWith(MUST_COME_UP[i]) && want > 0 ? 1 : 0;
        }
        Check.due(run + ", call " + calls + ": " + call, got, want);
    }

    private int odd() {
        return ODD[random.nextInt(ODD.length)];
    }

    private int slot() {
        return random.nextInt(25) == 0 ? odd() : random.nextInt(2);
    }

    /** An element of the slot, most times. */
    private int element(int slot) {
        int order = slot == 0 || slot == 1 ? y.size(slot, 0) : 20;
        int n = random.nextInt(20);
        return n == 0 ? odd() : n == 1 ? order : random.nextInt(order);
    }

    private int set(int slot) {
        int n = random.nextInt(12);
        if (n == 0) {
            return odd();
        }
        if (n == 1) {
            return 1 << element(slot);
        }
        int known = Math.max(1, y.size(slot, 4));
        return n < 6 ? random.nextInt(1 << Math.max(1, y.size(slot, 0))) : y.subgroup(slot, random.nextInt(known));
    }

    private String steps() {
        StringBuilder text = new StringBuilder("steps");
        int many = 1 + random.nextInt(4);
        for (int i = 0; i < many; i++) {
            text.append(' ').append(1 + random.nextInt(i == 0 ? 3 : 19));
        }
        return text.append(random.nextBoolean() ? ";both;" : ";").toString();
    }

    private void text(int slot) {
        int n = random.nextInt(8);
        if (n < 4) {
            tell(slot, GROUPS[random.nextInt(GROUPS.length)]);
        }
        if (n < 6) {
            tell(slot, steps());
        } else {
            tell(slot, n == 6 ? AT_FAULT[random.nextInt(AT_FAULT.length)] : "");
        }
    }

    /** Tells networks that are like each other, if the second group can have such a one. */
    private void likeNetworks() {
        int first = random.nextInt(GROUPS.length);
        int second = Math.max(0, first - random.nextInt(3));
        tell(0, GROUPS[first] + steps());
        tell(1, GROUPS[second]);
        int set = y.other();
        same("other()", x.other(), set);
        if (set > 0) {
            StringBuilder text = new StringBuilder("steps");
            for (int s = 1; s < 20; s++) {
                text.append((set >> s & 1) != 0 ? " " + s : "");
            }
            tell(1, text.append(';').toString());
            int point = element(0);
            same("alike(" + point + ")", x.alike(point), y.alike(point));
        }
    }

    private void tell(int slot, String text) {
        if (y.count(1) > 0) {
            same("tell(0, 0)", x.tell(0, 0), y.tell(0, 0));
        }
        for (int at = 0; at < text.length(); at += 20) {
            int[] ints = new int[5];
            for (int i = 0; i < 20; i++) {
                ints[i / 4] = ints[i / 4] << 8 | (at + i < text.length() ? text.charAt(at + i) : '~');
            }
            feed(ints);
        }
        same("tell " + text, x.tell(slot, text.length()), y.tell(slot, text.length()));
    }

    private void feed(int[] a) {
        same("feed", x.feed(a[0], a[1], a[2], a[3], a[4]), y.feed(a[0], a[1], a[2], a[3], a[4]));
    }

    private void change() {
        int slot = slot();
        int n = random.nextInt(12);
        int a = n < 6 ? element(slot) : n == 11 ? odd() : set(slot);
        String at = "(" + slot + ", " + a + ")";
        switch (n) {
            case 6 -> same("both" + at, x.both(slot), y.both(slot));
            case 7 -> same("quotient" + at, x.quotient(slot, a), y.quotient(slot, a));
            case 8, 9 -> same("undo", x.undo(), y.undo());
            case 10 -> feed(new int[] {odd(), odd(), odd(), odd(), odd()});
            case 11 -> same("tell" + at, x.tell(slot, a), y.tell(slot, a));
            default -> same("step" + at, x.step(slot, a), y.step(slot, a));
        }
    }

    /** Acts, quotients by normal subgroups among them, then some of them undone, with names and steps in between. */
    private void actsAndUndone() {
        int acts = 5 + random.nextInt(7);
        for (int i = 0; i < acts; i++) {
            int slot = random.nextInt(2);
            int set = y.subgroup(slot, random.nextInt(Math.min(4, y.size(slot, 4))));
            if (i % 3 == 0 && y.kind(slot, set) == 2) {
                same("quotient(" + slot + ", " + set + ")", x.quotient(slot, set), y.quotient(slot, set));
                nameOfLast(slot);
            } else {
                int step = element(slot);
                same("step(" + slot + ", " + step + ")", x.step(slot, step), y.step(slot, step));
            }
        }
        int undone = 1 + random.nextInt(acts);
        for (int i = 0; i < undone; i++) {
            same("undo", x.undo(), y.undo());
        }
        nameOfLast(random.nextInt(2));
    }

    private void nameOfLast(int slot) {
        int last = y.size(slot, 0) - 1;
        int i = random.nextInt(4);
        same("name(" + slot + ", " + last + ", " + i + ")", x.name(slot, last, i), y.name(slot, last, i));
        same("size(" + slot + ", 1)", x.size(slot, 1), y.size(slot, 1));
    }

    private void ask() {
        int slot = slot();
        int a = element(slot);
        int b = element(slot);
        int set = set(slot);
        int what = random.nextInt(20) == 0 ? odd() : random.nextInt(8);
        String at = "(" + slot + ", " + a + ", " + b + ") set " + set + " what " + what;
        switch (random.nextInt(14)) {
            case 0 -> same("fault" + at, x.fault(what), y.fault(what));
            case 1, 2 -> same("size" + at, x.size(slot, what), y.size(slot, what));
            case 3 -> same("product" + at, x.product(slot, a, b), y.product(slot, a, b));
            case 4 -> same("element" + at, x.element(slot, a, what), y.element(slot, a, what));
            case 5 -> same("classOf" + at, x.classOf(slot, a), y.classOf(slot, a));
            case 6 -> same("generated" + at, x.generated(slot, set), y.generated(slot, set));
            case 7 -> same("subgroup" + at, x.subgroup(slot, a), y.subgroup(slot, a));
            case 8 -> same("kind" + at, x.kind(slot, set), y.kind(slot, set));
            case 9 -> same("maps" + at, x.maps(slot), y.maps(slot));
            case 10, 11 -> same("mapped" + at, x.mapped(a), y.mapped(a));
            case 12 -> same("name" + at, x.name(slot, a, what), y.name(slot, a, what));
            default -> same("count" + at, x.count(what), y.count(what));
        }
    }

    private void askOfNetworks() {
        int slot = slot();
        int a = element(slot);
        int b = element(slot);
        int k = random.nextInt(10) == 0 ? odd() : random.nextInt(7) - 1;
        int i = random.nextInt(4) == 0 ? k : random.nextInt(3);
        String at = "(" + slot + ", " + a + ", " + b + ") k " + k + " i " + i;
        switch (random.nextInt(14)) {
            case 0 -> same("far" + at, x.far(slot, a, b), y.far(slot, a, b));
            case 1 -> same("sphere" + at, x.sphere(slot, k), y.sphere(slot, k));
            case 2, 3 -> same("way" + at, x.way(slot, a, i), y.way(slot, a, i));
            case 4 -> same("ring" + at, x.ring(slot), y.ring(slot));
            case 5 -> same("parts" + at, x.parts(slot), y.parts(slot));
            case 6 -> same("symmetries" + at, x.symmetries(slot), y.symmetries(slot));
            case 7 -> same("alikeTo" + at, x.alikeTo(slot, a), y.alikeTo(slot, a));
            case 8, 9 -> same("regular" + at, x.regular(slot, k), y.regular(slot, k));
            case 10, 11, 12 -> same("alike" + at, x.alike(a), y.alike(a));
            default -> same("other" + at, x.other(), y.other());
        }
    }
}
