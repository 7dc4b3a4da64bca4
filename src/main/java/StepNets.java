/**
 * Networks from groups and steps. Two slots, each with a group of at most twenty
 * elements and a set of steps; sets of elements are bits of an int throughout.
 */
public final class StepNets {
    public static final int NONE = -1;

    private static final int NO_SUCH = -2;
    private static final int BAD_NUMBER = -3;
    private static final int TOO_MANY = -4;
    private static final int CANNOT_BE = -5;
    private static final int FAULT_CODE = -30;

    private static final int LIMIT = 20;
    private static final int TAPE_LIMIT = 300;
    private static final int UNDO_LIMIT = 8;
    private static final int OTHER_LIMIT = 4;
    private static final int PRIME = 39;

    /** Orders of up to eight places are kept as ints, three bits an image, that of place 0 highest. */
    private static final int[] EVEN_ORDERS = {
        00123, 00231, 00312, 01032, 01203, 01320, 02013, 02130, 02301, 03021, 03102, 03210
    };

    private final byte[] tape;
    private int tapeLength;
    private final TextReader reader;
    private int latestFault;
    private int latestPlace;
    private final Network[] nets;
    private final History history;
    private final GroupMatcher groupMatcher;
    private final NetMatcher netMatcher;
    private final OtherFinder otherFinder;
    private final int[] mappedRow;
    private final int[] alikeRow;
    private int otherSet;
    private boolean mappedKnown;
    private boolean alikeKnown;
    private boolean otherKnown;

    public StepNets() {
        tape = new byte[TAPE_LIMIT];
        tapeLength = 0;
        reader = new TextReader(tape);
        latestFault = 0;
        latestPlace = NONE;
        Group alone = new Group(1, new int[1], new Names(new int[] {1}, null, 0), new int[1], 0);
        nets = new Network[2];
        nets[0] = new Network(alone);
        nets[1] = new Network(alone);
        history = new History();
        groupMatcher = new GroupMatcher();
        netMatcher = new NetMatcher();
        otherFinder = new OtherFinder();
        mappedRow = new int[LIMIT];
        alikeRow = new int[LIMIT];
    }

    public int feed(int a, int b, int c, int d, int e) {
        if (tapeLength + 20 > TAPE_LIMIT) {
            return TOO_MANY;
        }
        putOnTape(a);
        putOnTape(b);
        putOnTape(c);
        putOnTape(d);
        putOnTape(e);
        return tapeLength;
    }

    private void putOnTape(int four) {
        for (int shift = 24; shift >= 0 && tapeLength < TAPE_LIMIT; shift -= 8) {
            tape[tapeLength] = (byte) (four >> shift);
            tapeLength++;
        }
    }

    public int tell(int slot, int n) {
        if (!isSlot(slot)) {
            return NO_SUCH;
        }
        if (n < 0 || n > tapeLength) {
            return BAD_NUMBER;
        }
        Network net = nets[slot];
        reader.readText(n, net.group, net.steps);
        tapeLength = 0;
        latestFault = reader.faultFound;
        latestPlace = reader.faultPlace;
        if (latestFault != 0) {
            return FAULT_CODE - latestFault;
        }
        history.forget();
        become(slot, reader.group, reader.steps);
        return net.group.order;
    }

    public int fault(int what) {
        if (what == 0) {
            return latestFault;
        }
        return what == 1 ? latestPlace : NONE;
    }

    // ---- by hand

    public int step(int slot, int x) {
        if (!isElement(slot, x) || x == 0) {
            return NO_SUCH;
        }
        Network net = nets[slot];
        history.keep(slot, net);
        become(slot, net.group, net.steps ^ 1 << x);
        return net.steps >> x & 1;
    }

    public int both(int slot) {
        if (!isSlot(slot)) {
            return NO_SUCH;
        }
        Network net = nets[slot];
        history.keep(slot, net);
        become(slot, net.group, net.group.withInverses(net.steps));
        return Integer.bitCount(net.steps);
    }

    public int quotient(int slot, int set) {
        if (!isSlot(slot)) {
            return NO_SUCH;
        }
        Network net = nets[slot];
        Group group = net.group;
        if (!group.isSet(set)) {
            return BAD_NUMBER;
        }
        if (!group.isClosed(set) || !group.isOfWholeClasses(set)) {
            return CANNOT_BE;
        }
        history.keep(slot, net);
        int[] coset = new int[LIMIT];
        int[] least = new int[LIMIT];
        int cosets = group.numberCosets(set, coset, least);
        int steps = 0;
        for (int x = 0; x < group.order; x++) {
            if ((net.steps >> x & 1) != 0) {
                steps |= 1 << coset[x];
            }
        }
        become(slot, group.dividedBy(cosets, coset, least), steps & ~1);
        return cosets;
    }

    public int undo() {
        if (history.kept == 0) {
            return CANNOT_BE;
        }
        history.stepBack();
        Group group = history.group();
        if (group != null) {
            become(history.slot(), group, history.steps());
        }
        return history.kept;
    }

    private void become(int slot, Group group, int steps) {
        nets[slot].become(group, steps);
        mappedKnown = false;
        alikeKnown = false;
        otherKnown = false;
    }

    // ---- groups

    public int size(int slot, int what) {
        if (!isSlot(slot)) {
            return NO_SUCH;
        }
        Group group = nets[slot].group;
        switch (what) {
            case 0:
                return group.order;
            case 1:
                return Integer.bitCount(nets[slot].steps);
            case 2:
                return group.centreOrder();
            case 3:
                return group.countClasses();
            case 4:
                return group.countSubgroups();
            case 5:
                return Integer.bitCount(group.derived());
            case 6:
                return group.exponent();
            default:
                return NO_SUCH;
        }
    }

    public int product(int slot, int x, int y) {
        if (!isElement(slot, x) || !isElement(slot, y)) {
            return NO_SUCH;
        }
        return nets[slot].group.times(x, y);
    }

    public int element(int slot, int x, int what) {
        if (!isElement(slot, x)) {
            return NO_SUCH;
        }
        Group group = nets[slot].group;
        switch (what) {
            case 0:
                return group.inverse[x];
            case 1:
                return group.period[x];
            case 2:
                return nets[slot].steps >> x & 1;
            case 3:
                return Integer.bitCount(group.conjugates[x]);
            default:
                return NO_SUCH;
        }
    }

    public int classOf(int slot, int x) {
        return isElement(slot, x) ? nets[slot].group.conjugates[x] : NO_SUCH;
    }

    public int generated(int slot, int set) {
        if (!isSlot(slot)) {
            return NO_SUCH;
        }
        Group group = nets[slot].group;
        return group.isSet(set) ? group.span(set) : BAD_NUMBER;
    }

    public int subgroup(int slot, int k) {
        if (!isSlot(slot)) {
            return NO_SUCH;
        }
        if (k < 0) {
            return BAD_NUMBER;
        }
        return nets[slot].group.subgroupAt(k);
    }

    public int kind(int slot, int set) {
        if (!isSlot(slot)) {
            return NO_SUCH;
        }
        Group group = nets[slot].group;
        if (!group.isSet(set)) {
            return BAD_NUMBER;
        }
        if (!group.isClosed(set)) {
            return 0;
        }
        return group.isOfWholeClasses(set) ? 2 : 1;
    }

    public int maps(int slot) {
        if (!isSlot(slot)) {
            return NO_SUCH;
        }
        Group group = nets[slot].group;
        if (group.ownMaps == 0) {
            group.ownMaps = groupMatcher.countOwn(group, group.marks);
        }
        return group.ownMaps;
    }

    public int mapped(int x) {
        if (!isElement(0, x)) {
            return NO_SUCH;
        }
        if (!mappedKnown) {
            groupMatcher.findFirst(nets[0].group, nets[1].group, mappedRow);
            mappedKnown = true;
        }
        return mappedRow[x];
    }

    // ---- networks

    public int far(int slot, int g, int h) {
        if (!isElement(slot, g) || !isElement(slot, h)) {
            return NO_SUCH;
        }
        return nets[slot].distance(g, h);
    }

    public int sphere(int slot, int k) {
        if (!isSlot(slot)) {
            return NO_SUCH;
        }
        if (k < NONE) {
            return BAD_NUMBER;
        }
        return k == NONE ? nets[slot].deepest() : nets[slot].pointsAt(k);
    }

    public int way(int slot, int h, int i) {
        if (!isElement(slot, h)) {
            return NO_SUCH;
        }
        if (i < 0) {
            return BAD_NUMBER;
        }
        return nets[slot].stepOfWay(h, i);
    }

    public int ring(int slot) {
        return isSlot(slot) ? nets[slot].shortestRing() : NO_SUCH;
    }

    public int parts(int slot) {
        if (!isSlot(slot)) {
            return NO_SUCH;
        }
        Network net = nets[slot];
        int together = Integer.bitCount(net.group.span(net.steps));
        return together > 0 ? net.group.order / together : NONE;
    }

    // ---- symmetries

    public long symmetries(int slot) {
        if (!isSlot(slot)) {
            return NO_SUCH;
        }
        return solved(slot).staying * nets[slot].group.order;
    }

    public int alikeTo(int slot, int x) {
        return isElement(slot, x) ? solved(slot).orbits[x] : NO_SUCH;
    }

    public int regular(int slot, int what) {
        if (!isSlot(slot)) {
            return NO_SUCH;
        }
        switch (what) {
            case 0:
                return solved(slot).arcsAlike() ? 1 : 0;
            case 1:
                return solved(slot).farAlike() ? 1 : 0;
            case 2:
                return solved(slot).staying == ownCount(slot) ? 1 : 0;
            case 3:
                return ownCount(slot);
            default:
                return NO_SUCH;
        }
    }

    public int alike(int x) {
        if (!isElement(0, x)) {
            return NO_SUCH;
        }
        if (!alikeKnown) {
            netMatcher.findFirst(nets[0], nets[1], alikeRow);
            alikeKnown = true;
        }
        return alikeRow[x];
    }

    public int other() {
        if (nets[0].group.order != nets[1].group.order) {
            return CANNOT_BE;
        }
        if (Integer.bitCount(nets[0].steps) > OTHER_LIMIT) {
            return TOO_MANY;
        }
        if (!otherKnown) {
            otherSet = otherFinder.leastSet(nets[0], nets[1].group, netMatcher);
            otherKnown = true;
        }
        return otherSet;
    }

    private Network solved(int slot) {
        Network net = nets[slot];
        if (net.staying == 0) {
            net.staying = netMatcher.countStaying(net.painted(), net.orbits);
        }
        return net;
    }

    private int ownCount(int slot) {
        Network net = nets[slot];
        if (net.own == 0) {
            net.own = groupMatcher.countOwn(net.group, net.painted().classAt);
        }
        return net.own;
    }

    // ---- names

    public int name(int slot, int x, int i) {
        if (!isElement(slot, x)) {
            return NO_SUCH;
        }
        if (i < 0) {
            return BAD_NUMBER;
        }
        return nets[slot].group.nameByte(x, i);
    }

    public int count(int what) {
        if (what == 0) {
            return history.kept;
        }
        return what == 1 ? tapeLength : NONE;
    }

    private static boolean isSlot(int slot) {
        return slot == 0 || slot == 1;
    }

    private boolean isElement(int slot, int x) {
        return isSlot(slot) && x >= 0 && x < nets[slot].group.order;
    }

    private static int firstThen(int first, int second, int digits) {
        int row = 0;
        for (int shift = 3 * (digits - 1); shift >= 0; shift -= 3) {
            int led = first >> shift & 7;
            row = row << 3 | second >> 3 * (digits - 1 - led) & 7;
        }
        return row;
    }

    private static int indexOf(int[] row, int howMany, int value) {
        for (int i = 0; i < howMany && i < row.length; i++) {
            if (row[i] == value) {
                return i;
            }
        }
        return NONE;
    }

    /** How the elements of a told group are named: by numbers of factors, or by rows of images. */
    private static final class Names {
        final int[] sizes;
        final int[] rows;
        final int digits;

        Names(int[] sizes, int[] rows, int digits) {
            this.sizes = sizes;
            this.rows = rows;
            this.digits = digits;
        }

        /** Byte i of the name, or, behind its end, minus 1 less how many bytes behind it is. */
        int byteAt(int x, int i) {
            if (rows != null) {
                if (i >= digits) {
                    return NONE - (i - digits);
                }
                return x < rows.length ? '0' + (rows[x] >> 3 * (digits - 1 - i) & 7) : NONE;
            }
            return byteOfNumbers(x, i);
        }

        private int byteOfNumbers(int x, int i) {
            int rest = x;
            int at = 0;
            for (int f = 0; f < sizes.length; f++) {
                int many = Math.max(1, sizes[f]);
                int number = rest % many;
                rest /= many;
                if (f > 0) {
                    if (i == at) {
                        return ',';
                    }
                    at++;
                }
                if (number > 9) {
                    if (i == at) {
                        return '0' + number / 10;
                    }
                    at++;
                }
                if (i == at) {
                    return '0' + number % 10;
                }
                at++;
            }
            return NONE - (i - at);
        }
    }

    /** A group as a table, which never changes, and what is known of it once it was asked for. */
    private static final class Group {
        final int order;
        final int[] table;
        final int[] inverse;
        final int[] period;
        final int[] conjugates;
        final int[] marks;
        final Names names;
        final int[] origin;
        final int primes;
        int ownMaps;
        private int[] subgroups;
        private int subgroupCount;

        Group(int order, int[] table, Names names, int[] origin, int primes) {
            this.order = order;
            this.table = table;
            this.names = names;
            this.origin = origin;
            this.primes = primes;
            inverse = new int[order];
            period = new int[order];
            conjugates = new int[order];
            marks = new int[order];
            findInverses();
            findPeriods();
            findClasses();
            findMarks();
        }

        int times(int x, int y) {
            return table[x * order + y];
        }

        private void findInverses() {
            for (int x = 0; x < order; x++) {
                for (int y = 0; y < order; y++) {
                    if (table[x * order + y] == 0) {
                        inverse[x] = y;
                    }
                }
            }
        }

        private void findPeriods() {
            for (int x = 0; x < order; x++) {
                int power = x;
                int e = 1;
                while (power != 0 && e < order) {
                    power = times(power, x);
                    e++;
                }
                period[x] = e;
            }
        }

        private void findClasses() {
            for (int x = 0; x < order; x++) {
                int set = 0;
                for (int g = 0; g < order; g++) {
                    set |= 1 << times(inverse[g], times(x, g));
                }
                conjugates[x] = set;
            }
        }

        /** Period, size of the class, how many have it as their square: a group map keeps them all. */
        private void findMarks() {
            for (int x = 0; x < order; x++) {
                marks[x] += period[x] << 10 | Integer.bitCount(conjugates[x]) << 5;
                marks[times(x, x)]++;
            }
        }

        boolean hasMarksOf(Group second) {
            for (int x = 0; x < order; x++) {
                if (countMark(marks[x]) != second.countMark(marks[x])) {
                    return false;
                }
            }
            return order == second.order;
        }

        private int countMark(int mark) {
            int found = 0;
            for (int x = 0; x < order; x++) {
                if (marks[x] == mark) {
                    found++;
                }
            }
            return found;
        }

        boolean isSet(int set) {
            return set >= 0 && set >> order == 0;
        }

        boolean isClosed(int set) {
            return span(set) == set;
        }

        boolean isOfWholeClasses(int set) {
            for (int x = 0; x < order; x++) {
                if ((set >> x & 1) != 0 && (conjugates[x] & ~set) != 0) {
                    return false;
                }
            }
            return true;
        }

        int withInverses(int set) {
            int all = set;
            for (int x = 0; x < order; x++) {
                if ((set >> x & 1) != 0) {
                    all |= 1 << inverse[x];
                }
            }
            return all;
        }

        /** The points to which one arc leads from each of the others. */
        int onward(int points, int steps) {
            int reached = 0;
            for (int x = 0; x < order; x++) {
                if ((points >> x & 1) != 0) {
                    reached |= shifted(x, steps);
                }
            }
            return reached;
        }

        int shifted(int x, int set) {
            int moved = 0;
            for (int s = 0; s < order; s++) {
                if ((set >> s & 1) != 0) {
                    moved |= 1 << table[x * order + s];
                }
            }
            return moved;
        }

        /** In a finite group products of the set alone make inverses, too. */
        int span(int set) {
            int found = 1;
            int open = 1;
            for (int round = 0; round < order && open != 0; round++) {
                open = onward(open, set) & ~found;
                found |= open;
            }
            return found;
        }

        int centreOrder() {
            int alone = 0;
            for (int x = 0; x < order; x++) {
                if (conjugates[x] == 1 << x) {
                    alone++;
                }
            }
            return alone;
        }

        int countClasses() {
            int classes = 0;
            for (int x = 0; x < order; x++) {
                int below = (1 << x) - 1;
                if ((conjugates[x] & below) == 0) {
                    classes++;
                }
            }
            return classes;
        }

        int derived() {
            int set = 0;
            for (int x = 0; x < order; x++) {
                for (int y = 0; y < order; y++) {
                    set |= 1 << times(times(inverse[x], inverse[y]), times(x, y));
                }
            }
            return span(set);
        }

        int exponent() {
            int multiple = 1;
            for (int x = 0; x < order; x++) {
                int each = Math.max(1, period[x]);
                int sum = multiple;
                for (int i = 0; i < each && sum % each != 0; i++) {
                    sum += multiple;
                }
                multiple = sum;
            }
            return multiple;
        }

        int countSubgroups() {
            if (subgroups == null) {
                findSubgroups();
            }
            return subgroupCount;
        }

        int subgroupAt(int k) {
            return k < countSubgroups() && k < subgroups.length ? subgroups[k] : NONE;
        }

        /** Each subgroup grows, by one element more, out of a smaller one. */
        private void findSubgroups() {
            subgroups = new int[order > 8 ? 80 : 16];
            subgroups[0] = 1;
            subgroupCount = 1;
            for (int k = 0; k < subgroupCount && k < subgroups.length; k++) {
                int smaller = subgroups[k];
                int covered = smaller;
                for (int x = 0; x < order; x++) {
                    if ((covered >> x & 1) == 0) {
                        int larger = span(smaller | 1 << x);
                        keepSubgroup(larger);
                        covered |= hasNoneBetween(smaller, larger) ? larger : 1 << x;
                    }
                }
            }
            sortSubgroups();
        }

        /** With a prime index any element more makes the same larger one. */
        private static boolean hasNoneBetween(int smaller, int larger) {
            int index = Integer.bitCount(larger) / Math.max(1, Integer.bitCount(smaller));
            for (int d = 2; d < index; d++) {
                if (index % d == 0) {
                    return false;
                }
            }
            return true;
        }

        private void keepSubgroup(int set) {
            if (indexOf(subgroups, subgroupCount, set) == NONE && subgroupCount < subgroups.length) {
                subgroups[subgroupCount] = set;
                subgroupCount++;
            }
        }

        private void sortSubgroups() {
            for (int i = 1; i < subgroupCount; i++) {
                int set = subgroups[i];
                int j = i;
                while (j > 0 && subgroups[j - 1] > set) {
                    subgroups[j] = subgroups[j - 1];
                    j--;
                }
                subgroups[j] = set;
            }
        }

        /** Which coset each element is in, the least element of each: how many there are. */
        int numberCosets(int normal, int[] coset, int[] least) {
            int seen = 0;
            int cosets = 0;
            for (int x = 0; x < order; x++) {
                if ((seen >> x & 1) == 0) {
                    int set = shifted(x, normal);
                    seen |= set;
                    least[cosets] = x;
                    for (int y = 0; y < order; y++) {
                        if ((set >> y & 1) != 0) {
                            coset[y] = cosets;
                        }
                    }
                    cosets++;
                }
            }
            return cosets;
        }

        Group dividedBy(int cosets, int[] coset, int[] least) {
            int[] products = new int[cosets * cosets];
            int[] named = new int[cosets];
            for (int i = 0; i < cosets; i++) {
                named[i] = origin[least[i]];
                for (int j = 0; j < cosets; j++) {
                    products[i * cosets + j] = coset[times(least[i], least[j])];
                }
            }
            return new Group(cosets, products, names, named, primes + 1);
        }

        int nameByte(int x, int i) {
            int found = names.byteAt(origin[x], i);
            if (found >= 0) {
                return found;
            }
            return NONE - found < primes ? PRIME : NONE;
        }
    }

    /** The latest acts, as what the slot held ahead of each, in a ring of eight. */
    private static final class History {
        int kept;
        private int next;
        private final int[] slots = new int[UNDO_LIMIT];
        private final Group[] groups = new Group[UNDO_LIMIT];
        private final int[] stepSets = new int[UNDO_LIMIT];

        History() {
            kept = 0;
            next = 0;
        }

        void keep(int slot, Network net) {
            slots[next] = slot;
            groups[next] = net.group;
            stepSets[next] = net.steps;
            next = (next + 1) % UNDO_LIMIT;
            kept = Math.min(UNDO_LIMIT, kept + 1);
        }

        void stepBack() {
            next = (next + UNDO_LIMIT - 1) % UNDO_LIMIT;
            kept = Math.max(0, kept - 1);
        }

        void forget() {
            kept = 0;
        }

        int slot() {
            return slots[next];
        }

        Group group() {
            return groups[next];
        }

        int steps() {
            return stepSets[next];
        }
    }

    /** What a slot holds, and what was found out of its network since it changed. */
    private static final class Network {
        Group group;
        int steps;
        long staying;
        int own;
        final int[] orbits = new int[LIMIT];
        private final int[] out = new int[LIMIT];
        private final int[] depth = new int[LIMIT];
        private int greatest;
        private boolean measured;
        private boolean isPainted;
        private final Colouring colouring = new Colouring();

        Network(Group group) {
            this.group = group;
        }

        void become(Group newGroup, int newSteps) {
            group = newGroup;
            steps = newSteps;
            staying = 0;
            own = 0;
            measured = false;
            isPainted = false;
        }

        Colouring painted() {
            if (!isPainted) {
                colouring.paint(group, steps);
                colouring.spreadOut(group);
                isPainted = true;
            }
            return colouring;
        }

        private void measure() {
            if (measured) {
                return;
            }
            for (int x = 0; x < group.order; x++) {
                out[x] = group.shifted(x, steps);
                depth[x] = NONE;
            }
            int seen = 0;
            int open = 1;
            for (int k = 0; k < group.order && open != 0; k++) {
                for (int x = 0; x < group.order; x++) {
                    if ((open >> x & 1) != 0) {
                        depth[x] = k;
                    }
                }
                greatest = k;
                seen |= open;
                open = along(open) & ~seen;
            }
            measured = true;
        }

        private int along(int points) {
            int reached = 0;
            for (int x = 0; x < group.order; x++) {
                if ((points >> x & 1) != 0) {
                    reached |= out[x];
                }
            }
            return reached;
        }

        /** The network looks the same from all points, so 0 stands for each. */
        int distance(int g, int h) {
            measure();
            return depth[group.times(group.inverse[g], h)];
        }

        int deepest() {
            measure();
            return greatest;
        }

        int pointsAt(int k) {
            measure();
            int points = 0;
            for (int x = 0; x < group.order; x++) {
                if (depth[x] == k) {
                    points++;
                }
            }
            return points;
        }

        int stepOfWay(int h, int i) {
            int left = distance(0, h);
            if (i >= left) {
                return NONE;
            }
            int at = 0;
            int taken = NONE;
            for (int k = 0; k <= i; k++) {
                taken = firstStepTowards(at, h);
                if (taken == NONE) {
                    return NONE;
                }
                at = group.times(at, taken);
            }
            return taken;
        }

        private int firstStepTowards(int at, int h) {
            int left = distance(at, h);
            for (int s = 1; s < group.order; s++) {
                if ((steps >> s & 1) != 0 && distance(group.times(at, s), h) == left - 1) {
                    return s;
                }
            }
            return NONE;
        }

        int shortestRing() {
            measure();
            int best = NONE;
            for (int s = 1; s < group.order; s++) {
                if ((steps >> s & 1) != 0) {
                    int found = ringThrough(s, best);
                    best = found == NONE ? best : found;
                }
            }
            return best;
        }

        /** A ring that begins with the arc from 0 to s, shorter than the best one; the arc straight back is no way. */
        private int ringThrough(int s, int best) {
            int seen = 1 << s;
            int open = out[s] & ~seen & ~1;
            for (int arcs = 3; arcs <= group.order && open != 0; arcs++) {
                if (best != NONE && arcs >= best) {
                    return NONE;
                }
                seen |= open;
                open = along(open) & ~seen;
                if ((open & 1) != 0) {
                    return arcs;
                }
            }
            return NONE;
        }

        boolean arcsAlike() {
            for (int s = 1; s < group.order; s++) {
                if ((steps >> s & 1) != 0) {
                    return (steps & ~orbits[s]) == 0;
                }
            }
            return false;
        }

        boolean farAlike() {
            measure();
            for (int x = 0; x < group.order; x++) {
                for (int y = 0; y < x; y++) {
                    if (depth[x] == depth[y] && (orbits[x] >> y & 1) == 0) {
                        return false;
                    }
                }
            }
            return true;
        }
    }

    /**
     * Colours of pairs of points, that of g and h being one of what leads from g to h: first by
     * whether it or its inverse is a step, then, over and over, by the colours of all two-arc ways.
     * Alike pairs always have like colours; the low three bits tell the first colours, so that no
     * clash of the mixed ones can ever make an arc look like none.
     */
    private static final class Colouring {
        private static final int CODE = 7;

        int order;
        int classes;
        final int[] hues = new int[LIMIT];
        final int[] classAt = new int[LIMIT];
        final int[] leads = new int[LIMIT];
        final int[] members = new int[LIMIT];
        final int[] pairs = new int[LIMIT * LIMIT];
        final int[] fans = new int[LIMIT * LIMIT];
        private final int[] fresh = new int[LIMIT];

        Colouring() {
            order = 0;
            classes = 0;
        }

        void paint(Group group, int steps) {
            order = group.order;
            for (int z = 0; z < order; z++) {
                hues[z] = z == 0 ? 0 : 1 + (steps >> z & 1) + 2 * (steps >> group.inverse[z] & 1);
            }
            sortOut();
            for (int round = 0; round < order; round++) {
                int before = classes;
                refine(group);
                sortOut();
                if (classes == before) {
                    return;
                }
            }
        }

        private void refine(Group group) {
            int[] table = group.table;
            for (int z = 0; z < order; z++) {
                int sum = 0;
                for (int x = 0; x < order; x++) {
                    sum += mix(hues[x], hues[table[group.inverse[x] * order + z]]);
                }
                fresh[z] = mix(hues[z], sum) & ~CODE | hues[z] & CODE;
            }
            for (int z = 0; z < order; z++) {
                hues[z] = fresh[z];
            }
        }

        static int mix(int a, int b) {
            int h = a * 0x9E3779B1 + b;
            h = (h ^ h >>> 15) * 0x85EBCA77;
            return h ^ h >>> 13;
        }

        private void sortOut() {
            classes = 0;
            for (int z = 0; z < order; z++) {
                int k = classOfHue(hues[z]);
                if (k == classes) {
                    leads[k] = z;
                    members[k] = 0;
                    classes++;
                }
                classAt[z] = k;
                members[k]++;
            }
        }

        /** How many classes there are, if none of them has it. */
        int classOfHue(int hue) {
            for (int k = 0; k < classes; k++) {
                if (hues[leads[k]] == hue) {
                    return k;
                }
            }
            return classes;
        }

        /** For each pair its class; for each class and point the points that make such a pair with it. */
        void spreadOut(Group group) {
            for (int i = 0; i < fans.length; i++) {
                fans[i] = 0;
            }
            for (int x = 0; x < order; x++) {
                for (int z = 0; z < order; z++) {
                    int k = classAt[group.times(group.inverse[x], z)];
                    pairs[x * LIMIT + z] = k;
                    fans[k * LIMIT + x] |= 1 << z;
                }
            }
        }
    }

    /** Looks for maps of one network on another one, point by point, by the colours of pairs. */
    private static final class NetMatcher {
        private Colouring from;
        private Colouring to;
        private int order;
        private int all;
        private final int[] partner = new int[LIMIT];
        private final int[] allowed = new int[(LIMIT + 1) * LIMIT];
        private final int[] image = new int[LIMIT];
        private boolean inTurn;

        NetMatcher() {
            order = 0;
        }

        /** Whether both have like classes; then 0 is led to 0, which is no loss: all points look the same. */
        private boolean begin(Colouring first, Colouring second) {
            from = first;
            to = second;
            order = first.order;
            all = (1 << order) - 1;
            if (!fits(first, second)) {
                return false;
            }
            for (int x = 0; x < order; x++) {
                allowed[x] = all;
            }
            return lead(0, 0, 0);
        }

        boolean fits(Colouring first, Colouring second) {
            if (first.order != second.order || first.classes != second.classes) {
                return false;
            }
            for (int k = 0; k < first.classes; k++) {
                int hue = first.hues[first.leads[k]];
                int like = second.classOfHue(hue);
                if (like >= second.classes || second.members[like] != first.members[k]) {
                    return false;
                }
                partner[k] = like;
            }
            return true;
        }

        /** Leads x to y and leaves to all points, a depth further, what still fits; false if one has nothing left. */
        private boolean lead(int depth, int x, int y) {
            int here = depth * LIMIT;
            int further = here + LIMIT;
            image[x] = y;
            for (int z = 0; z < order; z++) {
                int left = allowed[here + z] & to.fans[partner[from.pairs[x * LIMIT + z]] * LIMIT + y];
                if (left == 0) {
                    return false;
                }
                allowed[further + z] = left;
            }
            return true;
        }

        private boolean complete(int depth, int done) {
            if (done == all) {
                return true;
            }
            if (depth >= LIMIT) {
                return false;
            }
            int x = pick(depth, done);
            int open = allowed[depth * LIMIT + x];
            for (int y = 0; y < order; y++) {
                if ((open >> y & 1) != 0 && lead(depth, x, y) && complete(depth + 1, done | 1 << x)) {
                    return true;
                }
            }
            return false;
        }

        /** The point whose turn it is, or else the one with the least choice. */
        private int pick(int depth, int done) {
            int best = 0;
            int fewest = LIMIT + 1;
            for (int x = 0; x < order; x++) {
                if ((done >> x & 1) == 0) {
                    int choice = inTurn ? x : Integer.bitCount(allowed[depth * LIMIT + x]);
                    if (choice < fewest) {
                        fewest = choice;
                        best = x;
                    }
                }
            }
            return best;
        }

        boolean isMatch(Colouring first, Colouring second) {
            inTurn = false;
            return begin(first, second) && complete(1, 1);
        }

        void findFirst(Network first, Network second, int[] row) {
            boolean found = false;
            if (first.group.order == second.group.order) {
                inTurn = true;
                found = begin(first.painted(), second.painted()) && complete(1, 1);
            }
            for (int x = 0; x < first.group.order; x++) {
                row[x] = found ? image[x] : NONE;
            }
        }

        /** How many symmetries have 0 stay; the orbits are their points that are alike. */
        long countStaying(Colouring colouring, int[] orbits) {
            for (int x = 0; x < colouring.order; x++) {
                orbits[x] = 1 << x;
            }
            inTurn = false;
            return begin(colouring, colouring) ? chain(1, 1, orbits) : 1;
        }

        /**
         * How many symmetries have all done points stay. Those found deeper join the orbits first,
         * so that each one looked for here joins two more or shows that none can.
         */
        private long chain(int depth, int done, int[] orbits) {
            if (done == all || depth >= LIMIT) {
                return 1;
            }
            int x = pick(depth, done);
            int open = allowed[depth * LIMIT + x];
            long below = 1;
            if (lead(depth, x, x)) {
                below = chain(depth + 1, done | 1 << x, orbits);
            }
            int tried = 1 << x;
            for (int y = 0; y < order; y++) {
                if ((open >> y & 1) != 0 && (orbits[y] & tried) == 0) {
                    tried |= 1 << y;
                    if (lead(depth, x, y) && complete(depth + 1, done | 1 << x)) {
                        joinOrbits(orbits);
                    }
                }
            }
            return below * Integer.bitCount(orbits[x]);
        }

        private void joinOrbits(int[] orbits) {
            for (int x = 0; x < order; x++) {
                int whole = orbits[x] | orbits[image[x]];
                for (int y = 0; y < order; y++) {
                    if ((whole >> y & 1) != 0) {
                        orbits[y] = whole;
                    }
                }
            }
        }
    }

    /** Looks for maps of one group on another one, by images of elements that make all others. */
    private static final class GroupMatcher {
        private Group from;
        private Group to;
        private int[] fromSorts;
        private int[] toSorts;
        private int makerCount;
        private final int[] makers = new int[LIMIT];
        private final int[] makerImage = new int[LIMIT];
        private final int[] image = new int[LIMIT];
        private final int[] queue = new int[LIMIT];

        GroupMatcher() {
            makerCount = 0;
        }

        private void begin(Group first, Group second, int[] firstSorts, int[] secondSorts) {
            from = first;
            to = second;
            fromSorts = firstSorts;
            toSorts = secondSorts;
            makerCount = 0;
            int made = 1;
            for (int x = 1; x < first.order && makerCount < LIMIT; x++) {
                if ((made >> x & 1) == 0) {
                    makers[makerCount] = x;
                    makerCount++;
                    made = first.span(made | 1 << x);
                }
            }
        }

        private boolean fits(int x, int y) {
            return from.marks[x] == to.marks[y] && fromSorts[x] == toSorts[y];
        }

        /** What the images of the first makers lead all to that these make; false if they contradict. */
        private boolean spread(int howMany) {
            int known = 1;
            int used = 1;
            int tail = 1;
            queue[0] = 0;
            image[0] = 0;
            for (int head = 0; head < tail && head < from.order; head++) {
                int x = queue[head];
                for (int m = 0; m < howMany; m++) {
                    int z = from.times(x, makers[m]);
                    int y = to.times(image[x], makerImage[m]);
                    if ((known >> z & 1) != 0) {
                        if (image[z] != y) {
                            return false;
                        }
                    } else {
                        if ((used >> y & 1) != 0 || !fits(z, y) || tail >= LIMIT) {
                            return false;
                        }
                        known |= 1 << z;
                        used |= 1 << y;
                        image[z] = y;
                        queue[tail] = z;
                        tail++;
                    }
                }
            }
            return true;
        }

        private boolean tryImage(int level, int y) {
            makerImage[level] = y;
            return fits(makers[level], y) && spread(level + 1);
        }

        private boolean complete(int level) {
            if (level >= makerCount || level >= LIMIT) {
                return true;
            }
            for (int y = 1; y < to.order; y++) {
                if (tryImage(level, y) && complete(level + 1)) {
                    return true;
                }
            }
            return false;
        }

        /** Makers are the least that are needed, so the first images of them make the first row. */
        void findFirst(Group first, Group second, int[] row) {
            boolean found = false;
            if (first.hasMarksOf(second)) {
                begin(first, second, first.marks, second.marks);
                image[0] = 0;
                found = complete(0);
            }
            for (int x = 0; x < first.order; x++) {
                row[x] = found ? image[x] : NONE;
            }
        }

        /**
         * Maps of a group on itself that keep sorts of elements: of those that have the makers ahead
         * stay, on how many each maker can be led, multiplied.
         */
        int countOwn(Group group, int[] sorts) {
            begin(group, group, sorts, sorts);
            int many = 1;
            for (int level = 0; level < makerCount; level++) {
                int here = 0;
                for (int y = 1; y < group.order; y++) {
                    if (tryImage(level, y) && complete(level + 1)) {
                        here++;
                    }
                }
                makerImage[level] = makers[level];
                many *= here;
            }
            return many;
        }
    }

    /** Looks through sets of elements, the least first, for steps that make a given network. */
    private static final class OtherFinder {
        private static final int SETS = 4000;
        private static final int LONGEST_WALK = 6;

        private final int[] chosen = new int[OTHER_LIMIT];
        private int many;
        private final int[] walks = new int[LIMIT];
        private final int[] longer = new int[LIMIT];
        private final int[] traces = new int[LIMIT];
        private final Colouring colouring = new Colouring();

        OtherFinder() {
            many = 0;
        }

        int leastSet(Network net, Group group, NetMatcher matcher) {
            many = Math.min(OTHER_LIMIT, Integer.bitCount(net.steps));
            if (many == 0) {
                return 0;
            }
            Colouring wanted = net.painted();
            chooseOf(net);
            long shortProfile = shortWalks(net.group);
            int longProfile = longWalks(net.group);
            for (int i = 0; i < many; i++) {
                chosen[i] = i + 1;
            }
            for (int sets = 0; sets < SETS && chosen[many - 1] < group.order; sets++) {
                if (shortWalks(group) == shortProfile && longWalks(group) == longProfile
                        && isWanted(wanted, group, matcher)) {
                    return chosenSet();
                }
                chooseNext();
            }
            return NONE;
        }

        private boolean isWanted(Colouring wanted, Group group, NetMatcher matcher) {
            colouring.paint(group, chosenSet());
            if (!matcher.fits(wanted, colouring)) {
                return false;
            }
            colouring.spreadOut(group);
            return matcher.isMatch(wanted, colouring);
        }

        private void chooseOf(Network net) {
            int i = 0;
            for (int s = 1; s < net.group.order; s++) {
                if ((net.steps >> s & 1) != 0 && i < many) {
                    chosen[i] = s;
                    i++;
                }
            }
        }

        private int chosenSet() {
            int set = 0;
            for (int i = 0; i < many; i++) {
                set |= 1 << chosen[i];
            }
            return set;
        }

        /** The next set by its bits: the lowest element that can rise does, those below begin anew. */
        private void chooseNext() {
            int i = 0;
            while (i < many - 1 && chosen[i] + 1 == chosen[i + 1]) {
                chosen[i] = i + 1;
                i++;
            }
            chosen[i]++;
        }

        /** How often two steps come to 0, to a step, to others: alike networks have it alike, and it is soon told. */
        private long shortWalks(Group group) {
            int set = chosenSet();
            for (int z = 0; z < group.order; z++) {
                walks[z] = 0;
            }
            for (int i = 0; i < many; i++) {
                for (int j = 0; j < many; j++) {
                    walks[group.times(chosen[i], chosen[j])]++;
                }
            }
            long profile = walks[0];
            for (int z = 1; z < group.order; z++) {
                if (walks[z] > 0) {
                    int field = 2 * walks[z] - (set >> z & 1);
                    profile += 1L << 6 * field;
                }
            }
            return profile;
        }

        /** How often more steps come to each point, mixed; goes on from the walks of two steps. */
        private int longWalks(Group group) {
            for (int z = 0; z < group.order; z++) {
                traces[z] = walks[z];
            }
            for (int steps = 3; steps <= LONGEST_WALK; steps++) {
                for (int z = 0; z < group.order; z++) {
                    longer[z] = 0;
                }
                for (int i = 0; i < many; i++) {
                    for (int z = 0; z < group.order; z++) {
                        longer[group.times(z, chosen[i])] += walks[z];
                    }
                }
                for (int z = 0; z < group.order; z++) {
                    walks[z] = longer[z];
                    traces[z] = Colouring.mix(traces[z], longer[z]);
                }
            }
            int sum = Colouring.mix(traces[0], many);
            for (int z = 0; z < group.order; z++) {
                sum += Colouring.mix(traces[z], 0);
            }
            return sum;
        }
    }

    /** Parts of a text: words, numbers, other bytes one by one, the end. */
    private static final class Lexer {
        static final int END = 0;
        static final int WORD = 1;
        static final int NUMBER = 2;
        static final int SIGN = 3;

        final byte[] bytes;
        int length;
        int start;
        int end;
        int sort;

        Lexer(byte[] bytes) {
            this.bytes = bytes;
            length = 0;
        }

        void begin(int n) {
            length = Math.min(n, bytes.length);
            end = 0;
            advance();
        }

        void advance() {
            start = end;
            while (start < length && bytes[start] == ' ') {
                start++;
            }
            if (start >= length) {
                start = length;
                end = length;
                sort = END;
                return;
            }
            if (goesOn('a', 'z')) {
                sort = WORD;
            } else if (goesOn('0', '9')) {
                sort = NUMBER;
            } else {
                sort = SIGN;
                end = start + 1;
            }
        }

        /** Ends behind all bytes from the start on that are such ones: whether there are some. */
        private boolean goesOn(char lowest, char highest) {
            end = start;
            while (end < length && bytes[end] >= lowest && bytes[end] <= highest) {
                end++;
            }
            return end > start;
        }

        boolean isWord(String word) {
            if (sort != WORD || word.length() != end - start) {
                return false;
            }
            for (int i = 0; i < word.length(); i++) {
                if (bytes[start + i] != word.charAt(i)) {
                    return false;
                }
            }
            return true;
        }

        boolean isSign(char sign) {
            return sort == SIGN && bytes[start] == sign;
        }

        /** The number here, or NONE if it has more than two digits. */
        int number() {
            if (end - start > 2) {
                return NONE;
            }
            int value = 0;
            for (int i = start; i < end; i++) {
                value = 10 * value + bytes[i] - '0';
            }
            return value;
        }

        /** The order here, or NONE if the digits are none. */
        int row() {
            int digits = end - start;
            if (digits < 2 || digits > 8) {
                return NONE;
            }
            int row = 0;
            int seen = 0;
            for (int i = start; i < end; i++) {
                int digit = bytes[i] - '0';
                if (digit >= digits || (seen >> digit & 1) != 0) {
                    return NONE;
                }
                seen |= 1 << digit;
                row = row << 3 | digit;
            }
            return row;
        }
    }

    /** Makes a group of the factors, or of the rows, that a text tells. */
    private static final class GroupBuilder {
        private final int[] letters = new int[TAPE_LIMIT / 2];
        private final int[] numbers = new int[TAPE_LIMIT / 2];
        private final int[] sizes = new int[TAPE_LIMIT / 2];
        private int factors;
        private int order;
        private final int[] rows = new int[TAPE_LIMIT / 2];
        private int rowCount;
        private int digits;
        private final int[] elements = new int[LIMIT + 1];

        GroupBuilder() {
            order = 1;
        }

        void startAnew() {
            factors = 0;
            order = 1;
            rowCount = 0;
            digits = 0;
        }

        /** False if there are too many elements with it. */
        boolean addFactor(int letter, int number) {
            int factorSize = sizeOf(letter, number);
            if (order * factorSize > LIMIT || factors >= sizes.length) {
                return false;
            }
            letters[factors] = letter;
            numbers[factors] = number;
            sizes[factors] = factorSize;
            factors++;
            order *= factorSize;
            return true;
        }

        private static int sizeOf(int letter, int number) {
            switch (letter) {
                case 'c':
                    return number;
                case 'd':
                    return 2 * number;
                case 'q':
                    return 4 * number;
                default:
                    return EVEN_ORDERS.length;
            }
        }

        /** False if it hasn't as many digits as the first one. */
        boolean addRow(int row, int itsDigits) {
            if (rowCount == 0) {
                digits = itsDigits;
            }
            if (itsDigits != digits || rowCount >= rows.length) {
                return false;
            }
            rows[rowCount] = row;
            rowCount++;
            return true;
        }

        /** The products of all rows: false if there are too many. */
        boolean findElements() {
            elements[0] = 0;
            for (int place = 0; place < digits; place++) {
                elements[0] = elements[0] << 3 | place;
            }
            order = 1;
            for (int x = 0; x < order && x < LIMIT; x++) {
                for (int r = 0; r < rowCount; r++) {
                    int row = firstThen(elements[x], rows[r], digits);
                    if (indexOf(elements, order, row) == NONE) {
                        if (order >= LIMIT) {
                            return false;
                        }
                        elements[order] = row;
                        order++;
                    }
                }
            }
            return true;
        }

        Group build() {
            int[] table = new int[order * order];
            int[] origin = new int[order];
            for (int x = 0; x < order; x++) {
                origin[x] = x;
                for (int y = 0; y < order; y++) {
                    table[x * order + y] = rowCount > 0 ? rowProduct(x, y) : factorsProduct(x, y);
                }
            }
            return new Group(order, table, names(), origin, 0);
        }

        private Names names() {
            if (rowCount == 0) {
                int[] told = new int[factors];
                System.arraycopy(sizes, 0, told, 0, factors);
                return new Names(told, null, 0);
            }
            int[] told = new int[order];
            System.arraycopy(elements, 0, told, 0, order);
            return new Names(null, told, digits);
        }

        private int rowProduct(int x, int y) {
            int row = firstThen(elements[x], elements[y], digits);
            return Math.max(0, indexOf(elements, order, row));
        }

        private int factorsProduct(int x, int y) {
            int restX = x;
            int restY = y;
            int weight = 1;
            int whole = 0;
            for (int f = 0; f < factors && weight < order; f++) {
                int many = Math.max(1, sizes[f]);
                whole += weight * factorProduct(f, restX % many, restY % many);
                weight *= many;
                restX /= many;
                restY /= many;
            }
            return whole;
        }

        private int factorProduct(int f, int x, int y) {
            int number = Math.max(1, numbers[f]);
            switch (letters[f]) {
                case 'c':
                    return (x + y) % number;
                case 'd':
                    return turned(x, y, number, 0);
                case 'q':
                    return turned(x, y, 2 * number, number);
                default:
                    int row = firstThen(EVEN_ORDERS[x], EVEN_ORDERS[y], 4);
                    return Math.max(0, indexOf(EVEN_ORDERS, EVEN_ORDERS.length, row));
            }
        }

        /** Product of turns, by how many there are, with flips; two flips turn by so much more. */
        private static int turned(int x, int y, int turns, int more) {
            int around = Math.max(1, turns);
            int r = x % around;
            int f = x / around;
            int s = y % around;
            int g = y / around;
            int turn = f == 0 ? r + s : r - s;
            if (f == 1 && g == 1) {
                turn += more;
            }
            int flip = g == 0 ? f : 1 - f;
            return Math.floorMod(turn, around) + around * flip;
        }
    }

    /** Reads a text; what it found counts only if there is no fault. */
    private static final class TextReader {
        int faultFound;
        int faultPlace;
        Group group;
        int steps;
        private boolean groupMayCome;
        private final Lexer lexer;
        private final GroupBuilder builder = new GroupBuilder();

        TextReader(byte[] bytes) {
            lexer = new Lexer(bytes);
        }

        void readText(int n, Group heldGroup, int heldSteps) {
            faultFound = 0;
            faultPlace = NONE;
            group = heldGroup;
            steps = heldSteps;
            groupMayCome = true;
            lexer.begin(n);
            for (int lines = 0; lines <= n && lexer.sort != Lexer.END; lines++) {
                if (!readLine() || !take(lexer.isSign(';'))) {
                    return;
                }
            }
        }

        private boolean fail(int found, int place) {
            faultFound = found;
            faultPlace = place;
            return false;
        }

        /** Goes on behind what stands here, if it can. */
        private boolean take(boolean canStand) {
            if (!canStand) {
                return fail(1, lexer.start);
            }
            lexer.advance();
            return true;
        }

        private boolean readLine() {
            if (lexer.isWord("steps")) {
                return readSteps();
            }
            if (lexer.isWord("both")) {
                groupMayCome = false;
                steps = group.withInverses(steps);
                return take(true);
            }
            boolean factors = lexer.isWord("group");
            boolean canStand = groupMayCome && (factors || lexer.isWord("perms"));
            int place = lexer.start;
            if (!take(canStand)) {
                return false;
            }
            groupMayCome = false;
            builder.startAnew();
            if (factors ? !readFactors() : !readRows(place)) {
                return false;
            }
            group = builder.build();
            steps = 0;
            return true;
        }

        private boolean readSteps() {
            groupMayCome = false;
            lexer.advance();
            int told = 0;
            boolean more = true;
            for (int i = 0; i <= lexer.length && more; i++) {
                int place = lexer.start;
                int x = lexer.sort == Lexer.NUMBER ? lexer.number() : 0;
                if (!take(lexer.sort == Lexer.NUMBER)) {
                    return false;
                }
                if (x < 1 || x >= group.order) {
                    return fail(2, place);
                }
                told |= 1 << x;
                more = lexer.sort == Lexer.NUMBER;
            }
            steps = told;
            return true;
        }

        private boolean readFactors() {
            boolean more = true;
            for (int i = 0; i <= lexer.length && more; i++) {
                if (!readFactor()) {
                    return false;
                }
                more = lexer.isWord("x");
                if (more) {
                    lexer.advance();
                }
            }
            return true;
        }

        private boolean readFactor() {
            int place = lexer.start;
            int letter = factorLetter();
            if (!take(letter != 0)) {
                return false;
            }
            int number = 0;
            if (letter != 'a') {
                int numberPlace = lexer.start;
                number = lexer.sort == Lexer.NUMBER ? lexer.number() : 0;
                if (!take(lexer.sort == Lexer.NUMBER)) {
                    return false;
                }
                if (number < leastOf(letter) || number > mostOf(letter)) {
                    return fail(2, numberPlace);
                }
            }
            return builder.addFactor(letter, number) || fail(3, place);
        }

        private int factorLetter() {
            if (lexer.isWord("c")) {
                return 'c';
            }
            if (lexer.isWord("d")) {
                return 'd';
            }
            if (lexer.isWord("q")) {
                return 'q';
            }
            return lexer.isWord("a") ? 'a' : 0;
        }

        private static int leastOf(int letter) {
            return letter == 'q' ? 2 : 1;
        }

        private static int mostOf(int letter) {
            if (letter == 'c') {
                return 20;
            }
            return letter == 'd' ? 10 : 5;
        }

        private boolean readRows(int placeOfWord) {
            boolean more = true;
            for (int i = 0; i <= lexer.length && more; i++) {
                int place = lexer.start;
                int digits = lexer.end - place;
                int row = lexer.sort == Lexer.NUMBER ? lexer.row() : 0;
                if (!take(lexer.sort == Lexer.NUMBER)) {
                    return false;
                }
                if (row == NONE || !builder.addRow(row, digits)) {
                    return fail(2, place);
                }
                more = lexer.isSign(',');
                if (more) {
                    lexer.advance();
                }
            }
            return builder.findElements() || fail(3, placeOfWord);
        }
    }
}
