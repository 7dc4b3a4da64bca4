import java.util.ArrayList;
import java.util.List;
import java.util.Random;

/** What the class finds by searching, against the plainest search for the same. */
public final class BruteForceTests {
    private static final String[] SMALL = {
        "group c 1;", "group c 2;", "group c 3;", "group c 4;", "group c 2 x c 2;", "group c 5;", "group c 6;",
        "group d 3;", "perms 120,102;", "group c 7;", "group c 8;", "group c 4 x c 2;", "group c 2 x c 4;",
        "group c 2 x c 2 x c 2;", "group d 4;", "perms 1230,0321;", "group q 2;"
    };
    private static final String[] LARGER = {
        "group c 9;", "group c 3 x c 3;", "group c 10;", "group d 5;", "group c 2 x c 5;", "group c 12;",
        "group c 6 x c 2;", "group d 6;", "group q 3;", "group a;", "perms 1203,1032;", "group d 7;", "group c 15;",
        "group c 16;", "group c 8 x c 2;", "group c 4 x c 4;", "group c 4 x c 2 x c 2;",
        "group c 2 x c 2 x c 2 x c 2;", "group d 8;", "group q 4;", "group d 4 x c 2;", "group q 2 x c 2;",
        "group c 17;", "group c 18;", "group d 9;", "group c 3 x d 3;", "perms 120345,012453,021354;",
        "group c 19;", "group c 20;", "group c 2 x c 10;", "group d 10;", "group q 5;", "perms 12340,13024;",
        "perms 12340,04321,13024;"
    };
    private static final Random RANDOM = new Random(20261117);

    private static int order;
    private static int[][] table;
    private static int[][] second;
    private static boolean[][] arcs;
    private static int[] row;
    private static int[] firstRow;
    private static long found;
    private static int[] staying;
    private static int[][] far;
    private static int[][] secondFar;
    private static long tries;
    private static final long MOST_TRIES = 300000;

    public static void main(String[] args) {
        for (String text : SMALL) {
            groupIsOne(text);
            searchGroup(text);
            for (int i = 0; i < 12; i++) {
                searchNetwork(text, i, true);
            }
        }
        for (String text : LARGER) {
            groupIsOne(text);
            searchGroup(text);
            for (int i = 0; i < 8; i++) {
                searchNetwork(text, i, false);
            }
        }
        searchPairs();
        firstOfMany();
        quotients();
        Check.end();
    }

    private static int[][] tableOf(StepNets x, int slot) {
        int n = x.size(slot, 0);
        int[][] products = new int[n][n];
        for (int i = 0; i < n; i++) {
            for (int j = 0; j < n; j++) {
                products[i][j] = x.product(slot, i, j);
            }
        }
        return products;
    }

    private static boolean[][] arcsOf(int[][] products, int steps) {
        int n = products.length;
        boolean[][] leads = new boolean[n][n];
        for (int g = 0; g < n; g++) {
            for (int s = 1; s < n; s++) {
                if ((steps >> s & 1) != 0) {
                    leads[g][products[g][s]] = true;
                }
            }
        }
        return leads;
    }

    private static int stepsOf(StepNets x, int slot) {
        int set = 0;
        for (int s = 0; s < x.size(slot, 0); s++) {
            set |= x.element(slot, s, 2) << s;
        }
        return set;
    }

    private static int randomSet(int n, int i) {
        if (i == 0 || n == 1) {
            return 0;
        }
        int all = (1 << n) - 2;
        if (i == 1) {
            return all;
        }
        int set = 0;
        int many = 1 + RANDOM.nextInt(i % 2 == 0 ? Math.min(4, n - 1) : n - 1);
        while (Integer.bitCount(set) < many) {
            set |= 1 << 1 + RANDOM.nextInt(n - 1);
        }
        return set;
    }

    private static void setSteps(StepNets x, int slot, int set) {
        for (int s = 1; s < x.size(slot, 0); s++) {
            if (x.element(slot, s, 2) != (set >> s & 1)) {
                x.step(slot, s);
            }
        }
    }

    private static void groupIsOne(String text) {
        StepNets x = Check.told(text, "");
        int[][] t = tableOf(x, 0);
        int n = t.length;
        boolean good = true;
        for (int i = 0; i < n; i++) {
            good &= t[0][i] == i && t[i][0] == i && t[i][x.element(0, i, 0)] == 0 && t[x.element(0, i, 0)][i] == 0;
            for (int j = 0; j < n; j++) {
                for (int k = 0; k < n; k++) {
                    good &= t[t[i][j]][k] == t[i][t[j][k]];
                }
            }
        }
        Check.holds("a group: " + text, good);
    }

    private static boolean isClosed(int set, int[][] t) {
        if ((set & 1) == 0) {
            return false;
        }
        for (int i = 0; i < t.length; i++) {
            for (int j = 0; (set >> i & 1) != 0 && j < t.length; j++) {
                if ((set >> j & 1) != 0 && (set >> t[i][j] & 1) == 0) {
                    return false;
                }
            }
        }
        return true;
    }

    private static void searchGroup(String text) {
        StepNets x = Check.told(text, "");
        table = tableOf(x, 0);
        order = table.length;
        classesAndPeriods(text, x);
        List<Integer> subgroups = new ArrayList<>();
        for (int set = 1; set < 1 << order; set += 2) {
            if (order % Integer.bitCount(set) == 0 && isClosed(set, table)) {
                subgroups.add(set);
            }
        }
        Check.due("subgroups of " + text, x.size(0, 4), subgroups.size());
        for (int k = 0; k < subgroups.size(); k++) {
            int set = subgroups.get(k);
            Check.due("subgroup " + k + " of " + text, x.subgroup(0, k), set);
            Check.due("kind of one of " + text, x.kind(0, set), isNormal(set) ? 2 : 1);
            Check.due("kind of another set of " + text, x.kind(0, set ^ 1), 0);
        }
        for (int i = 0; i < 30; i++) {
            int set = RANDOM.nextInt(1 << order) & (RANDOM.nextInt() | 1);
            int least = subgroups.get(subgroups.size() - 1);
            for (int k : subgroups) {
                least = (set & ~k) == 0 ? least & k : least;
            }
            Check.due("generated of " + text, x.generated(0, set), least);
        }
        Check.due("maps of " + text, x.maps(0), countMaps(0));
    }

    private static boolean isNormal(int set) {
        for (int g = 0; g < order; g++) {
            for (int h = 0; h < order; h++) {
                if ((set >> h & 1) != 0 && (set >> table[table[inverse(g)][h]][g] & 1) == 0) {
                    return false;
                }
            }
        }
        return true;
    }

    private static int inverse(int g) {
        int h = 0;
        while (table[h][g] != 0) {
            h++;
        }
        return h;
    }

    private static void classesAndPeriods(String text, StepNets x) {
        int alone = 0;
        int commutators = 0;
        int all = 1;
        java.util.Set<Integer> classes = new java.util.TreeSet<>();
        for (int i = 0; i < order; i++) {
            int set = 0;
            boolean commutes = true;
            int period = 1;
            for (int power = i; power != 0; power = table[power][i]) {
                period++;
            }
            for (int g = 0; g < order; g++) {
                set |= 1 << table[table[inverse(g)][i]][g];
                commutes &= table[g][i] == table[i][g];
                commutators |= 1 << table[table[table[inverse(i)][inverse(g)]][i]][g];
            }
            alone += commutes ? 1 : 0;
            classes.add(set);
            int multiple = all;
            while (multiple % period != 0) {
                multiple += all;
            }
            all = multiple;
            Check.due("period in " + text, x.element(0, i, 1), period);
            Check.due("class in " + text, x.classOf(0, i), set);
            Check.due("size of class in " + text, x.element(0, i, 3), Integer.bitCount(set));
        }
        Check.due("centre of " + text, x.size(0, 2), alone);
        Check.due("classes of " + text, x.size(0, 3), classes.size());
        Check.due("derived of " + text, x.size(0, 5), Integer.bitCount(x.generated(0, commutators)));
        Check.due("multiple of " + text, x.size(0, 6), all);
    }

    /** Maps of the table on itself, row by row, that keep a set. */
    private static long countMaps(int set) {
        row = new int[order];
        firstRow = null;
        second = table;
        found = 0;
        fillMap(0, set, set, false);
        return found;
    }

    private static void fillMap(int x, int set, int other, boolean firstAlone) {
        if (x == order) {
            found++;
            firstRow = firstRow == null ? row.clone() : firstRow;
            return;
        }
        for (int y = 0; y < order && !(firstAlone && found > 0); y++) {
            row[x] = y;
            if ((set >> x & 1) == (other >> y & 1) && keepsProducts(x)) {
                fillMap(x + 1, set, other, firstAlone);
            }
        }
    }

    private static boolean keepsProducts(int x) {
        for (int i = 0; i < x; i++) {
            if (row[i] == row[x]) {
                return false;
            }
        }
        for (int i = 0; i <= x; i++) {
            for (int j = 0; j <= x; j++) {
                int product = table[i][j];
                if (product <= x && (i == x || j == x || product == x) && row[product] != second[row[i]][row[j]]) {
                    return false;
                }
            }
        }
        return true;
    }

    private static void searchNetwork(String text, int i, boolean allSymmetries) {
        StepNets x = Check.told(text, "");
        order = x.size(0, 0);
        table = tableOf(x, 0);
        setSteps(x, 0, randomSet(order, i));
        if (RANDOM.nextInt(3) == 0) {
            x.both(0);
        }
        int steps = stepsOf(x, 0);
        arcs = arcsOf(table, steps);
        String what = text + " with " + Integer.toBinaryString(steps);
        far = allFar(arcs);
        secondFar = far;
        distances(what, x);
        Check.due("ring of " + what, x.ring(0), shortestRing());
        long own = countMaps(steps);
        Check.due("own of " + what, x.regular(0, 3), own);
        if (allSymmetries) {
            symmetries(what, x, steps, own);
        }
    }

    private static int[][] allFar(boolean[][] leads) {
        int[][] least = new int[order][order];
        for (int g = 0; g < order; g++) {
            for (int h = 0; h < order; h++) {
                least[g][h] = g == h ? 0 : leads[g][h] ? 1 : 1000;
            }
        }
        for (int k = 0; k < order; k++) {
            for (int g = 0; g < order; g++) {
                for (int h = 0; h < order; h++) {
                    least[g][h] = Math.min(Math.min(1000, least[g][h]), least[g][k] + least[k][h]);
                }
            }
        }
        return least;
    }

    private static void distances(String what, StepNets x) {
        int[] spheres = new int[order + 1];
        int greatest = 0;
        for (int h = 0; h < order; h++) {
            for (int g = 0; g < order; g++) {
                Check.due("far in " + what, x.far(0, g, h), far[g][h] >= 1000 ? -1 : far[g][h]);
            }
            if (far[0][h] < 1000) {
                spheres[far[0][h]]++;
                greatest = Math.max(greatest, far[0][h]);
                List<Integer> way = firstWay(0, h, far[0][h]);
                for (int i = 0; i <= way.size(); i++) {
                    Check.due("way in " + what, x.way(0, h, i), i < way.size() ? way.get(i) : -1);
                }
            } else {
                Check.due("no way in " + what, x.way(0, h, 0), -1);
            }
        }
        for (int k = 0; k <= order; k++) {
            Check.due("sphere in " + what, x.sphere(0, k), spheres[k]);
        }
        Check.due("greatest sphere in " + what, x.sphere(0, -1), greatest);
        Check.due("parts of " + what, x.parts(0), countParts());
    }

    private static List<Integer> firstWay(int at, int h, int left) {
        if (left == 0) {
            return at == h ? new ArrayList<>() : null;
        }
        for (int s = 1; s < order; s++) {
            if (arcs[at][table[at][s]]) {
                List<Integer> rest = firstWay(table[at][s], h, left - 1);
                if (rest != null) {
                    rest.add(0, s);
                    return rest;
                }
            }
        }
        return null;
    }

    private static int countParts() {
        int[] part = new int[order];
        for (int i = 0; i < order; i++) {
            part[i] = i;
        }
        for (int round = 0; round < order; round++) {
            for (int g = 0; g < order; g++) {
                for (int h = 0; h < order; h++) {
                    if (arcs[g][h]) {
                        part[g] = Math.min(part[g], part[h]);
                        part[h] = part[g];
                    }
                }
            }
        }
        int parts = 0;
        for (int i = 0; i < order; i++) {
            parts += part[i] == i ? 1 : 0;
        }
        return parts;
    }

    private static int shortestRing() {
        for (int arcsLong = 3; arcsLong <= order; arcsLong++) {
            for (int from = 0; from < order; from++) {
                if (closes(from, from, 1 << from, arcsLong)) {
                    return arcsLong;
                }
            }
        }
        return -1;
    }

    private static boolean closes(int start, int at, int seen, int left) {
        if (left == 1) {
            return arcs[at][start];
        }
        for (int h = 0; h < order; h++) {
            if (arcs[at][h] && (seen >> h & 1) == 0 && closes(start, h, seen | 1 << h, left - 1)) {
                return true;
            }
        }
        return false;
    }

    private static void symmetries(String what, StepNets x, int steps, long own) {
        staying = new int[order];
        row = new int[order];
        found = 0;
        tries = Long.MIN_VALUE;
        firstRow = null;
        fillNet(0, false);
        Check.due("symmetries of " + what, x.symmetries(0), found);
        boolean arcsAlike = false;
        boolean arcsUnlike = false;
        boolean farAlike = true;
        for (int i = 0; i < order; i++) {
            Check.due("alike to " + i + " in " + what, x.alikeTo(0, i), staying[i]);
            for (int j = 0; j < order; j++) {
                boolean alike = (staying[i] >> j & 1) != 0;
                farAlike &= far[0][i] != far[0][j] || alike;
                if ((steps >> i & 1) != 0 && (steps >> j & 1) != 0) {
                    arcsAlike = true;
                    arcsUnlike |= !alike;
                }
            }
        }
        Check.due("all arcs alike in " + what, x.regular(0, 0), arcsAlike && !arcsUnlike ? 1 : 0);
        Check.due("all far alike in " + what, x.regular(0, 1), farAlike ? 1 : 0);
        Check.due("normal: " + what, x.regular(0, 2), found / order == own ? 1 : 0);
    }

    private static void fillNet(int x, boolean firstAlone) {
        if (x == order) {
            found++;
            firstRow = firstRow == null ? row.clone() : firstRow;
            for (int i = 0; i < order && row[0] == 0 && staying != null; i++) {
                staying[i] |= 1 << row[i];
            }
            return;
        }
        for (int y = 0; y < order && !(firstAlone && found > 0) && tries < MOST_TRIES; y++) {
            boolean fits = true;
            tries++;
            for (int i = 0; i < x && fits; i++) {
                fits = far[i][x] == secondFar[row[i]][y] && far[x][i] == secondFar[y][row[i]];
            }
            if (fits) {
                row[x] = y;
                fillNet(x + 1, firstAlone);
            }
        }
    }

    /** Symmetries keep how far all points are, and what keeps that keeps arcs. */
    private static boolean findNetMap() {
        tries = order > 8 ? 0 : Long.MIN_VALUE;
        row = new int[order];
        staying = null;
        found = 0;
        firstRow = null;
        fillNet(0, true);
        return firstRow != null;
    }

    private static void searchPairs() {
        for (String text : SMALL) {
            for (String other : SMALL) {
                pairs(text, other, 5);
            }
        }
        for (String text : LARGER) {
            for (String other : LARGER) {
                pairs(text, other, 6);
            }
        }
    }

    private static void pairs(String text, String other, int rounds) {
        StepNets x = Check.told(text, other);
        order = x.size(0, 0);
        table = tableOf(x, 0);
        second = tableOf(x, 1);
        if (table.length != second.length) {
            Check.due(text + " on " + other, x.mapped(0), -1);
            Check.due(text + " alike " + other, x.alike(0), -1);
            Check.due(text + " as " + other, x.other(), -5);
            return;
        }
        row = new int[order];
        found = 0;
        firstRow = null;
        fillMap(0, 0, 0, true);
        int[] groupMap = firstRow;
        for (int i = 0; i < order; i++) {
            Check.due(text + " on " + other, x.mapped(i), groupMap == null ? -1 : groupMap[i]);
        }
        for (int i = 0; i < rounds; i++) {
            networks(text + " and " + other, x, groupMap, i + 2);
        }
    }

    private static void networks(String what, StepNets x, int[] groupMap, int i) {
        int steps = randomSet(order, order > 8 ? 2 : i);
        setSteps(x, 0, steps);
        arcs = arcsOf(table, steps);
        far = allFar(arcs);
        String with = what + " with " + Integer.toBinaryString(steps);
        if (order <= 8) {
            Check.due("other of " + with, x.other(), leastOther(steps));
        }
        int target = groupMap == null ? Math.max(0, x.other()) : 0;
        for (int s = 1; s < order && groupMap != null; s++) {
            target |= (steps >> s & 1) << groupMap[s];
        }
        setSteps(x, 1, target);
        secondFar = allFar(arcsOf(second, target));
        boolean like = findNetMap();
        for (int k = 0; k < order && tries < MOST_TRIES; k++) {
            Check.due("alike of " + with, x.alike(k), like ? firstRow[k] : -1);
        }
    }

    /** Networks with maps of which one that is found sooner, point by least choice, is not the first. */
    private static void firstOfMany() {
        String[][] texts = {
            {"group q 3;steps 4 5 6 8;", "group q 3;steps 1 2 6 8;"},
            {"group q 2 x c 2;steps 8 9 10 14;", "group q 4;steps 1 3 8 12;"},
            {"group q 2 x c 2;steps 6 12 13 14;", "group q 2 x c 2;steps 1 3 4 9;"},
            {"group d 4 x c 2;steps 5 12 14 15;", "group c 4 x c 4;steps 1 3 4 12;"},
            {"group q 4;steps 10 11 13;", "group q 4;steps 1 3 8;"}
        };
        int alike = 0;
        for (String[] pair : texts) {
            StepNets x = Check.told(pair[0], pair[1]);
            order = x.size(0, 0);
            far = allFar(arcsOf(tableOf(x, 0), stepsOf(x, 0)));
            secondFar = allFar(arcsOf(tableOf(x, 1), stepsOf(x, 1)));
            boolean like = findNetMap();
            alike += like ? 1 : 0;
            for (int k = 0; k < order; k++) {
                Check.due(pair[0] + " alike " + pair[1], x.alike(k), like ? firstRow[k] : -1);
            }
            Check.holds("not too many tries", tries < MOST_TRIES);
        }
        Check.holds("some are alike", alike > 2);
    }

    private static int leastOther(int steps) {
        if (Integer.bitCount(steps) > 4) {
            return -4;
        }
        for (int set = 0; set < 1 << order; set += 2) {
            if (Integer.bitCount(set) == Integer.bitCount(steps)) {
                secondFar = allFar(arcsOf(second, set));
                if (findNetMap()) {
                    return set;
                }
            }
        }
        return -1;
    }

    private static void quotients() {
        List<String> all = new ArrayList<>(List.of(SMALL));
        all.addAll(List.of(LARGER));
        for (String text : all) {
            StepNets x = Check.told(text, "");
            table = tableOf(x, 0);
            order = table.length;
            for (int k = 0; k < x.size(0, 4); k++) {
                int set = x.subgroup(0, k);
                if (x.kind(0, set) == 2) {
                    setSteps(x, 0, randomSet(order, 3));
                    quotient(text, x, set);
                } else {
                    Check.due("quotient of " + text, x.quotient(0, set), -5);
                }
            }
        }
    }

    private static void quotient(String text, StepNets x, int set) {
        String before = Check.seen(x, 0);
        int steps = stepsOf(x, 0);
        List<Integer> least = new ArrayList<>();
        int[] coset = new int[order];
        for (int g = 0; g < order; g++) {
            int lowest = g;
            for (int h = 0; h < order; h++) {
                lowest = (set >> h & 1) != 0 ? Math.min(lowest, table[g][h]) : lowest;
            }
            if (lowest == g) {
                least.add(g);
            }
            coset[g] = least.indexOf(lowest);
        }
        String[] names = new String[order];
        for (int i = 0; i < least.size(); i++) {
            names[i] = Check.nameOf(x, 0, least.get(i)) + "'";
        }
        Check.due("quotient of " + text, x.quotient(0, set), least.size());
        int wanted = 0;
        for (int g = 0; g < order; g++) {
            wanted |= (steps >> g & 1) << coset[g];
            for (int h = 0; h < order; h++) {
                Check.due("product in a quotient of " + text, x.product(0, coset[g], coset[h]), coset[table[g][h]]);
            }
        }
        Check.due("steps of a quotient of " + text, stepsOf(x, 0), wanted & ~1);
        for (int i = 0; i < least.size(); i++) {
            Check.holds("name in a quotient of " + text, names[i].equals(Check.nameOf(x, 0, i)));
        }
        x.undo();
        Check.holds("undone quotient of " + text, before.equals(Check.seen(x, 0)));
    }
}
