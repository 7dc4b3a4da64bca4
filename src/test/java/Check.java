/** Counts answers that are not as due; feeds texts. */
final class Check {
    private static int checked = 0;
    private static int wrong = 0;
    private static String sentence = "";

    private Check() {
    }

    /** Of which sentence of the document the checks are that follow; a failure names it. */
    static void sentence(String section, String words) {
        sentence = "\n    of '" + section + "': " + words;
    }

    static void due(String call, long got, long want) {
        checked++;
        if (got != want) {
            wrong++;
            System.out.println(call + " answered " + got + ", due is " + want + sentence);
        }
    }

    static void holds(String what, boolean holds) {
        checked++;
        if (!holds) {
            wrong++;
            System.out.println("does not hold: " + what + sentence);
        }
    }

    static void end() {
        System.out.println(checked + " checked, " + wrong + " wrong");
        if (wrong != 0) {
            System.exit(1);
        }
    }

    /** Puts the bytes of a text on the tape, zeros behind it up to the next twenty. */
    static void feed(StepNets x, String text) {
        for (int at = 0; at < text.length(); at += 20) {
            int[] ints = new int[5];
            for (int i = 0; i < 20; i++) {
                int sign = at + i < text.length() ? text.charAt(at + i) & 255 : 0;
                ints[i / 4] = ints[i / 4] << 8 | sign;
            }
            x.feed(ints[0], ints[1], ints[2], ints[3], ints[4]);
        }
    }

    static int tell(StepNets x, int slot, String text) {
        feed(x, text);
        return x.tell(slot, text.length());
    }

    /** A new object with a text told to each slot, neither at fault. */
    static StepNets told(String first, String second) {
        StepNets x = new StepNets();
        holds(first, tell(x, 0, first) > 0);
        holds(second, tell(x, 1, second) > 0);
        return x;
    }

    /** A text is taken by a new object. */
    static StepNets taken(String text, int elements) {
        StepNets x = new StepNets();
        due("taken: " + text, tell(x, 0, text), elements);
        due("size of " + text, x.size(0, 0), elements);
        due("fault(0) of " + text, x.fault(0), 0);
        due("fault(1) of " + text, x.fault(1), -1);
        due("count(1) of " + text, x.count(1), 0);
        return x;
    }

    /** A text is at fault for a new object, which stays as it was but for the fault. */
    static void fault(String text, int found, int place) {
        StepNets x = new StepNets();
        due("at fault: " + text, tell(x, 0, text), -30 - found);
        due("fault(0) of " + text, x.fault(0), found);
        due("fault(1) of " + text, x.fault(1), place);
        due("count(1) of " + text, x.count(1), 0);
        due("size of " + text, x.size(0, 0), 1);
        due("steps of " + text, x.size(0, 1), 0);
    }

    static String nameOf(StepNets x, int slot, int element) {
        StringBuilder name = new StringBuilder();
        for (int i = 0; i < 2000; i++) {
            int sign = x.name(slot, element, i);
            if (sign == StepNets.NONE) {
                return name.toString();
            }
            name.append((char) sign);
        }
        return name.toString();
    }

    /** All that can be seen of a slot's group and steps without searching. */
    static String seen(StepNets x, int slot) {
        StringBuilder text = new StringBuilder();
        int order = x.size(slot, 0);
        for (int i = 0; i < order; i++) {
            text.append(nameOf(x, slot, i)).append(x.element(slot, i, 2) == 1 ? "!" : ".");
            for (int j = 0; j < order; j++) {
                text.append(' ').append(x.product(slot, i, j));
            }
            text.append('\n');
        }
        return text.toString();
    }

    /** What was searched for in a slot. */
    static String found(StepNets x, int slot) {
        StringBuilder text = new StringBuilder();
        text.append(x.maps(slot)).append(' ').append(x.ring(slot)).append(' ').append(x.parts(slot)).append(' ');
        text.append(x.symmetries(slot)).append(' ').append(x.sphere(slot, -1)).append(' ').append(x.size(slot, 4));
        for (int what = 0; what < 4; what++) {
            text.append(' ').append(x.regular(slot, what));
        }
        return text.append('\n').toString();
    }

    /**
     * All that an object of small groups tells, then what undoing brings back, then its tape as a text: within
     * the calls that it is good for, which are used up by that.
     */
    static String used(StepNets x, boolean faultToo) {
        StringBuilder text = new StringBuilder();
        if (faultToo) {
            text.append(x.fault(0)).append(' ').append(x.fault(1)).append('\n');
        }
        text.append(x.count(0)).append(' ').append(x.count(1)).append('\n');
        text.append(seen(x, 0)).append(seen(x, 1)).append(found(x, 0)).append(found(x, 1));
        text.append(x.mapped(0)).append(' ').append(x.alike(0)).append(' ').append(x.other()).append('\n');
        int can = x.count(0);
        for (int i = 0; i < can; i++) {
            text.append(x.undo());
            for (int slot = 0; slot < 2; slot++) {
                text.append(' ').append(nameOf(x, slot, 0)).append(':');
                for (int g = 0; g < x.size(slot, 0); g++) {
                    text.append(x.element(slot, g, 2));
                }
            }
            text.append('\n');
        }
        text.append(x.tell(0, Math.min(8, x.count(1)))).append(' ').append(x.fault(0)).append(' ').append(x.fault(1));
        for (int g = 0; g < x.size(0, 0); g++) {
            text.append(' ').append(x.element(0, g, 2));
        }
        return text.toString();
    }
}
