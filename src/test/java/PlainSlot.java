import java.util.ArrayList;
import java.util.Arrays;
import java.util.List;
import java.util.TreeSet;

/** A group and its steps as the document defines them, each question answered by its definition; it never changes. */
final class PlainSlot {
    private static final int FAR_AWAY = 1000;

    final int order;
    final int[][] table;
    final List<String> names;
    final TreeSet<Integer> steps;
    private final boolean[][] arcs;
    private final int[][] far;
    private List<Integer> subgroups = null;
    private Integer maps = null;
    private Integer own = null;
    private Long symmetries = null;
    private int[] alike = null;

    PlainSlot(int[][] table, List<String> names, TreeSet<Integer> steps) {
        this.order = table.length;
        this.table = table;
        this.names = names;
        this.steps = steps;
        arcs = new boolean[order][order];
        for (int g = 0; g < order; g++) {
            for (int s : steps) {
                arcs[g][table[g][s]] = true;
            }
        }
        far = new int[order][];
    }

    PlainSlot withSteps(TreeSet<Integer> others) {
        return new PlainSlot(table, names, others);
    }

    /** How far all points are from one, found when first asked for. */
    private int[] farFrom(int g) {
        if (far[g] == null) {
            far[g] = new int[order];
            Arrays.fill(far[g], FAR_AWAY);
            far[g][g] = 0;
            List<Integer> reached = new ArrayList<>(List.of(g));
            for (int i = 0; i < reached.size(); i++) {
                for (int h = 0; h < order; h++) {
                    if (arcs[reached.get(i)][h] && far[g][h] == FAR_AWAY) {
                        far[g][h] = far[g][reached.get(i)] + 1;
                        reached.add(h);
                    }
                }
            }
        }
        return far[g];
    }

    // ---- the group

    int inverse(int x) {
        int h = 0;
        while (table[h][x] != 0) {
            h++;
        }
        return h;
    }

    int period(int x) {
        int e = 1;
        for (int power = x; power != 0; power = table[power][x]) {
            e++;
        }
        return e;
    }

    int classOf(int x) {
        int set = 0;
        for (int g = 0; g < order; g++) {
            set |= 1 << table[table[inverse(g)][x]][g];
        }
        return set;
    }

    int centre() {
        int alone = 0;
        for (int x = 0; x < order; x++) {
            alone += Integer.bitCount(classOf(x)) == 1 ? 1 : 0;
        }
        return alone;
    }

    int classes() {
        TreeSet<Integer> all = new TreeSet<>();
        for (int x = 0; x < order; x++) {
            all.add(classOf(x));
        }
        return all.size();
    }

    int generated(int set) {
        int all = set | 1;
        for (int before = 0; before != all;) {
            before = all;
            for (int x = 0; x < order; x++) {
                for (int y = 0; y < order; y++) {
                    if ((all >> x & all >> y & 1) != 0) {
                        all |= 1 << table[x][y];
                    }
                }
            }
        }
        return all;
    }

    /** No group of twenty elements or fewer needs more than four of them to make the others. */
    List<Integer> subgroups() {
        if (subgroups == null) {
            TreeSet<Integer> all = new TreeSet<>();
            all.add(1);
            for (int many = 0; many < 4; many++) {
                for (int smaller : new ArrayList<>(all)) {
                    for (int x = 0; x < order; x++) {
                        all.add(generated(smaller | 1 << x));
                    }
                }
            }
            subgroups = new ArrayList<>(all);
        }
        return subgroups;
    }

    int kind(int set) {
        if (!subgroups().contains(set)) {
            return 0;
        }
        for (int x = 0; x < order; x++) {
            if ((set >> x & 1) != 0 && (classOf(x) | set) != set) {
                return 1;
            }
        }
        return 2;
    }

    int derived() {
        int set = 0;
        for (int x = 0; x < order; x++) {
            for (int y = 0; y < order; y++) {
                set |= 1 << table[table[table[inverse(x)][inverse(y)]][x]][y];
            }
        }
        return Integer.bitCount(generated(set));
    }

    int multipleOfPeriods() {
        for (int multiple = 1;; multiple++) {
            boolean isOne = true;
            for (int x = 0; x < order; x++) {
                isOne &= multiple % period(x) == 0;
            }
            if (isOne) {
                return multiple;
            }
        }
    }

    PlainSlot quotient(int set) {
        TreeSet<Integer> least = new TreeSet<>();
        int[] leastOf = new int[order];
        for (int g = 0; g < order; g++) {
            leastOf[g] = order;
            for (int h = 0; h < order; h++) {
                if ((set >> h & 1) != 0) {
                    leastOf[g] = Math.min(leastOf[g], table[g][h]);
                }
            }
            least.add(leastOf[g]);
        }
        List<Integer> numbered = new ArrayList<>(least);
        int[][] products = new int[numbered.size()][numbered.size()];
        List<String> primed = new ArrayList<>();
        for (int i = 0; i < numbered.size(); i++) {
            primed.add(names.get(numbered.get(i)) + "'");
            for (int j = 0; j < numbered.size(); j++) {
                products[i][j] = numbered.indexOf(leastOf[table[numbered.get(i)][numbered.get(j)]]);
            }
        }
        TreeSet<Integer> left = new TreeSet<>();
        steps.forEach(s -> left.add(numbered.indexOf(leastOf[s])));
        left.remove(0);
        return new PlainSlot(products, primed, left);
    }

    TreeSet<Integer> stepsAndInverses() {
        TreeSet<Integer> all = new TreeSet<>(steps);
        steps.forEach(s -> all.add(inverse(s)));
        return all;
    }

    int maps() {
        if (maps == null) {
            maps = groupMaps(this, false, Integer.MAX_VALUE).size();
        }
        return maps;
    }

    /** The first group map by numbers; null if there is none. */
    int[] firstGroupMap(PlainSlot to) {
        List<int[]> rows = groupMaps(to, false, 1);
        return rows.isEmpty() ? null : rows.get(0);
    }

    /** Rows of images, the first by numbers first; if steps are to be kept, too, those that lead steps on steps. */
    private List<int[]> groupMaps(PlainSlot to, boolean stepsToo, int most) {
        List<int[]> rows = new ArrayList<>();
        if (to.order == order) {
            extendGroupMap(to, new int[order], 0, stepsToo, most, rows);
        }
        return rows;
    }

    private void extendGroupMap(PlainSlot to, int[] row, int x, boolean stepsToo, int most, List<int[]> rows) {
        if (x == order) {
            rows.add(row.clone());
            return;
        }
        for (int y = 0; y < order && rows.size() < most; y++) {
            row[x] = y;
            if ((!stepsToo || steps.contains(x) == to.steps.contains(y)) && keepsProducts(to, row, x)) {
                extendGroupMap(to, row, x + 1, stepsToo, most, rows);
            }
        }
    }

    private boolean keepsProducts(PlainSlot to, int[] row, int x) {
        for (int i = 0; i < x; i++) {
            if (row[i] == row[x]) {
                return false;
            }
        }
        for (int i = 0; i <= x; i++) {
            for (int j = 0; j <= x; j++) {
                if (table[i][j] <= x && row[table[i][j]] != to.table[row[i]][row[j]]) {
                    return false;
                }
            }
        }
        return true;
    }

    // ---- the network

    int far(int g, int h) {
        return farFrom(g)[h] == FAR_AWAY ? -1 : farFrom(g)[h];
    }

    int sphere(int k) {
        int many = 0;
        for (int x = 0; x < order; x++) {
            many += far(0, x) == k ? 1 : 0;
        }
        return many;
    }

    int greatestSphere() {
        int greatest = 0;
        for (int x = 0; x < order; x++) {
            greatest = Math.max(greatest, far(0, x));
        }
        return greatest;
    }

    /** All rows of as many steps, the first by numbers first, are tried. */
    List<Integer> way(int h) {
        List<Integer> row = new ArrayList<>();
        if (farFrom(0)[h] < FAR_AWAY) {
            leads(0, h, farFrom(0)[h], row);
        }
        return row;
    }

    private boolean leads(int at, int h, int left, List<Integer> row) {
        if (left == 0 || farFrom(at)[h] > left) {
            return at == h;
        }
        for (int s : steps) {
            row.add(s);
            if (leads(table[at][s], h, left - 1, row)) {
                return true;
            }
            row.remove(row.size() - 1);
        }
        return false;
    }

    int ring() {
        for (int arcsLong = 3; arcsLong <= order; arcsLong++) {
            for (int start = 0; start < order; start++) {
                if (closes(start, start, 1 << start, arcsLong)) {
                    return arcsLong;
                }
            }
        }
        return -1;
    }

    private boolean closes(int start, int at, int seen, int left) {
        if (left == 1) {
            return arcs[at][start];
        }
        for (int h = 0; h < order; h++) {
            boolean canBe = arcs[at][h] && (seen >> h & 1) == 0 && farFrom(h)[start] < left;
            if (canBe && closes(start, h, seen | 1 << h, left - 1)) {
                return true;
            }
        }
        return false;
    }

    int parts() {
        int seen = 0;
        int parts = 0;
        for (int x = 0; x < order; x++) {
            if ((seen >> x & 1) == 0) {
                parts++;
                seen |= partOf(x);
            }
        }
        return parts;
    }

    private int partOf(int x) {
        int part = 1 << x;
        for (int round = 0; round < order; round++) {
            for (int g = 0; g < order; g++) {
                for (int h = 0; h < order; h++) {
                    if ((arcs[g][h] || arcs[h][g]) && (part >> g & 1) != 0) {
                        part |= 1 << h;
                    }
                }
            }
        }
        return part;
    }

    // ---- symmetries

    /** Whether there is a network map that leads the points of a row so; those at -1 are free. */
    private boolean isNetworkMap(PlainSlot to, int[] row) {
        List<Integer> led = new ArrayList<>();
        int[] whole = new int[order];
        for (int x = 0; x < order; x++) {
            if (row[x] >= 0) {
                whole[x] = row[x];
                if (!fits(to, whole, led, x)) {
                    return false;
                }
                led.add(x);
            }
        }
        return extend(to, whole, led);
    }

    private boolean fits(PlainSlot to, int[] row, List<Integer> led, int x) {
        int y = row[x];
        for (int z : led) {
            if (row[z] == y || farFrom(x)[z] != to.farFrom(y)[row[z]] || farFrom(z)[x] != to.farFrom(row[z])[y]) {
                return false;
            }
        }
        return true;
    }

    private boolean extend(PlainSlot to, int[] row, List<Integer> led) {
        if (led.size() == order) {
            return true;
        }
        int x = nextPoint(led);
        for (int y = 0; y < order; y++) {
            row[x] = y;
            if (fits(to, row, led, x)) {
                led.add(x);
                if (extend(to, row, led)) {
                    return true;
                }
                led.remove(led.size() - 1);
            }
        }
        return false;
    }

    /** The point with the most arcs to those that are led already: it has the least choice. */
    private int nextPoint(List<Integer> led) {
        int best = -1;
        int most = -1;
        for (int x = 0; x < order; x++) {
            if (!led.contains(x)) {
                int many = 0;
                for (int z : led) {
                    many += (arcs[x][z] ? 1 : 0) + (arcs[z][x] ? 1 : 0);
                }
                if (many > most) {
                    most = many;
                    best = x;
                }
            }
        }
        return best;
    }

    /** As many arcs in both: far 1 on far 1 leads all arcs on all arcs then. */
    private boolean mayBeLike(PlainSlot to) {
        return order == to.order && steps.size() == to.steps.size();
    }

    /** Those that have the points ahead stay lead each point on so many: multiplied, from the first point on. */
    long symmetries() {
        if (symmetries == null) {
            long all = 1;
            int[] row = new int[order];
            Arrays.fill(row, -1);
            for (int x = 0; x < order; x++) {
                int here = 0;
                for (int y = 0; y < order; y++) {
                    row[x] = y;
                    here += isNetworkMap(this, row) ? 1 : 0;
                }
                row[x] = x;
                all *= here;
            }
            symmetries = all;
        }
        return symmetries;
    }

    int alikeTo(int x) {
        if (alike == null) {
            alike = new int[order];
            for (int g = 0; g < order; g++) {
                for (int h = 0; h < order; h++) {
                    int[] row = new int[order];
                    Arrays.fill(row, -1);
                    row[0] = 0;
                    boolean staysSo = (g == 0) == (h == 0);
                    row[g] = h;
                    alike[g] |= staysSo && isNetworkMap(this, row) ? 1 << h : 0;
                }
            }
        }
        return alike[x];
    }

    boolean allArcsAlike() {
        if (steps.isEmpty()) {
            return false;
        }
        for (int s : steps) {
            if ((alikeTo(steps.first()) >> s & 1) == 0) {
                return false;
            }
        }
        return true;
    }

    boolean allFarAlike() {
        for (int x = 0; x < order; x++) {
            for (int y = 0; y < order; y++) {
                if (far(0, x) == far(0, y) && (alikeTo(x) >> y & 1) == 0) {
                    return false;
                }
            }
        }
        return true;
    }

    int own() {
        if (own == null) {
            own = groupMaps(this, true, Integer.MAX_VALUE).size();
        }
        return own;
    }

    boolean isNormal() {
        long staying = 1;
        int[] row = new int[order];
        Arrays.fill(row, -1);
        row[0] = 0;
        for (int x = 1; x < order; x++) {
            int here = 0;
            for (int y = 0; y < order; y++) {
                row[x] = y;
                here += isNetworkMap(this, row) ? 1 : 0;
            }
            row[x] = x;
            staying *= here;
        }
        return staying == own();
    }

    /** The first network map, point by point the least image that can still be; null if there is none. */
    int[] firstNetworkMap(PlainSlot to) {
        int[] row = new int[order];
        Arrays.fill(row, -1);
        if (!mayBeLike(to) || !isNetworkMap(to, row)) {
            return null;
        }
        for (int x = 0; x < order; x++) {
            row[x] = 0;
            while (!isNetworkMap(to, row)) {
                row[x]++;
            }
        }
        return row;
    }

    int other(PlainSlot second) {
        if (order != second.order) {
            return -5;
        }
        if (steps.size() > 4) {
            return -4;
        }
        int[] free = new int[order];
        Arrays.fill(free, -1);
        for (int set = 0; set < 1 << order; set += 2) {
            if (Integer.bitCount(set) == steps.size()) {
                TreeSet<Integer> theirs = new TreeSet<>();
                for (int s = 1; s < order; s++) {
                    if ((set >> s & 1) != 0) {
                        theirs.add(s);
                    }
                }
                PlainSlot tried = second.withSteps(theirs);
                if (hasSpheresOf(tried) && isNetworkMap(tried, free)) {
                    return set;
                }
            }
        }
        return -1;
    }

    private boolean hasSpheresOf(PlainSlot to) {
        for (int k = -1; k < order; k++) {
            if (sphere(k) != to.sphere(k)) {
                return false;
            }
        }
        return true;
    }
}
