import java.util.Random;
import java.util.TreeSet;

/** Texts at random, right ones and such as are nearly right, against a plain reader. */
public final class TextFuzzTests {
    private static final String[] RIGHT = {
        "group c 6;steps 1 5;", "group d 4 x c 2;both;steps 1 15;both;", "group a;steps 3 11;", "group q 2 x c 2;steps 9;",
        "perms 12340,13024;steps 1 19;both;", "perms 1203,0213;", "group c 2 x c 2 x c 2 x c 2;steps 1 2 4 8;",
        "steps 1;both;", "both;both;", "perms 10;steps 1;steps 1 1;", "group c 20 x c 1;steps 19;", "group q 5;steps 10;both;",
        "perms 12345670,76543210;", "group d 10;", "perms 1230,1023;", "group c 5 x c 5;", "group c 3 x d 3;steps 17;both;"
    };
    private static final String[] PARTS = {
        "group ", "perms ", "steps ", "both", ";", ";", ";", ",", " x ", "c ", "d ", "q ", "a", "1", "2", "3", "5", "10", "12",
        "19", "20", "21", "100", "01", "102", "120", "0123", "1230", "76543210", "012345678", " ", "  ", "x", "!", "group c 3;",
        "steps 1;", "both;", "perms 1023,0132;", "c 2", " x c 2", "A", "\0", "\u00ff"
    };

    public static void main(String[] args) {
        Random random = new Random(8);
        int[] faults = new int[4];
        for (int i = 0; i < 30000; i++) {
            StepNets x = new StepNets();
            TreeSet<Integer> steps = new TreeSet<>();
            if (i % 3 == 0) {
                Check.tell(x, 0, "group d 3;steps 1 3;");
                steps.add(1);
                steps.add(3);
            }
            String text = random.nextInt(3) > 0 ? nearly(random) : mixed(random);
            faults[compare(x, text, steps)]++;
        }
        for (int found = 0; found < 4; found++) {
            Check.holds("fault " + found + " came up, " + faults[found] + " times", faults[found] > 300);
        }
        Check.end();
    }

    private static String mixed(Random random) {
        StringBuilder text = new StringBuilder();
        int many = random.nextInt(16);
        for (int i = 0; i < many; i++) {
            text.append(PARTS[random.nextInt(PARTS.length)]);
        }
        return text.toString();
    }

    private static String nearly(Random random) {
        StringBuilder text = new StringBuilder(RIGHT[random.nextInt(RIGHT.length)]);
        if (random.nextInt(4) == 0) {
            text.append(RIGHT[random.nextInt(RIGHT.length)]);
        }
        int changes = random.nextInt(3);
        for (int i = 0; i < changes; i++) {
            int at = random.nextInt(text.length() + 1);
            String part = PARTS[random.nextInt(PARTS.length)];
            switch (random.nextInt(4)) {
                case 0 -> text.insert(at, part);
                case 1 -> text.replace(at, Math.min(text.length(), at + 1), part.substring(0, 1));
                case 2 -> text.delete(at, Math.min(text.length(), at + 1 + random.nextInt(3)));
                default -> text.setLength(at);
            }
        }
        return text.toString();
    }

    private static int compare(StepNets x, String text, TreeSet<Integer> heldSteps) {
        int[][] held = tableOf(x);
        PlainReader plain = new PlainReader(text, held, heldSteps);
        int answer = Check.tell(x, 0, text);
        Check.due("fault(0) of '" + text + "'", x.fault(0), plain.fault);
        Check.due("fault(1) of '" + text + "'", x.fault(1), plain.place);
        int[][] table = plain.fault == 0 ? plain.table() : held;
        Check.due("tell of '" + text + "'", answer, plain.fault == 0 ? table.length : -30 - plain.fault);
        Check.holds("products by '" + text + "'", java.util.Arrays.deepEquals(tableOf(x), table));
        for (int i = 0; i < table.length; i++) {
            boolean isStep = (plain.fault == 0 ? plain.steps : heldSteps).contains(i);
            Check.due("step " + i + " by '" + text + "'", x.element(0, i, 2), isStep ? 1 : 0);
            String name = plain.fault == 0 && plain.elements != null ? plain.name(i) : String.valueOf(i);
            Check.holds("name of " + i + " by '" + text + "'", Check.nameOf(x, 0, i).equals(name));
        }
        return plain.fault;
    }

    private static int[][] tableOf(StepNets x) {
        int order = x.size(0, 0);
        int[][] table = new int[order][order];
        for (int i = 0; i < order; i++) {
            for (int j = 0; j < order; j++) {
                table[i][j] = x.product(0, i, j);
            }
        }
        return table;
    }
}
