/** Counts answers that are not as due; feeds texts. */
final class Check {
    private static int checked = 0;
    private static int wrong = 0;

    private Check() {
    }

    static void due(String call, long got, long want) {
        checked++;
        if (got != want) {
            wrong++;
            System.out.println(call + " answered " + got + ", due is " + want);
        }
    }

    static void holds(String what, boolean holds) {
        checked++;
        if (!holds) {
            wrong++;
            System.out.println("does not hold: " + what);
        }
    }

    static void end() {
        System.out.println(checked + " checked, " + wrong + " wrong");
        if (wrong != 0) {
            System.exit(1);
        }
    }

    /** Puts the bytes of a text on the tape, zeros behind it up to the next twenty. */
    static void feed(StepNets x, String text) {
        for (int at = 0; at < text.length(); at += 20) {
            int[] ints = new int[5];
            for (int i = 0; i < 20; i++) {
                int sign = at + i < text.length() ? text.charAt(at + i) & 255 : 0;
                ints[i / 4] = ints[i / 4] << 8 | sign;
            }
            x.feed(ints[0], ints[1], ints[2], ints[3], ints[4]);
        }
    }

    static int tell(StepNets x, int slot, String text) {
        feed(x, text);
        return x.tell(slot, text.length());
    }

    /** A new object with a text told to each slot, neither at fault. */
    static StepNets told(String first, String second) {
        StepNets x = new StepNets();
        holds(first, tell(x, 0, first) > 0);
        holds(second, tell(x, 1, second) > 0);
        return x;
    }

    static String nameOf(StepNets x, int slot, int element) {
        StringBuilder name = new StringBuilder();
        for (int i = 0; i < 2000; i++) {
            int sign = x.name(slot, element, i);
            if (sign == StepNets.NONE) {
                return name.toString();
            }
            name.append((char) sign);
        }
        return name.toString();
    }

    /** All that can be seen of a slot's group and steps without searching. */
    static String seen(StepNets x, int slot) {
        StringBuilder text = new StringBuilder();
        int order = x.size(slot, 0);
        for (int i = 0; i < order; i++) {
            text.append(nameOf(x, slot, i)).append(x.element(slot, i, 2) == 1 ? "!" : ".");
            for (int j = 0; j < order; j++) {
                text.append(' ').append(x.product(slot, i, j));
            }
            text.append('\n');
        }
        return text.toString();
    }
}
