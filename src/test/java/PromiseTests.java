/** Promises 1 and 5 to 29, one after the other: ordinary inputs, edges, wrong inputs. */
public final class PromiseTests {
    private static final int[] NO_SLOTS = {-1, 2, Integer.MIN_VALUE, Integer.MAX_VALUE};

    public static void main(String[] args) {
        newObject();
        step();
        both();
        quotient();
        undo();
        size();
        product();
        element();
        classOf();
        generated();
        subgroup();
        kind();
        maps();
        mapped();
        far();
        sphere();
        way();
        ring();
        parts();
        symmetries();
        alikeTo();
        regular();
        alike();
        other();
        name();
        count();
        slotsThatAreNone();
        Check.end();
    }

    private static void newObject() {
        StepNets x = new StepNets();
        for (int slot = 0; slot < 2; slot++) {
            Check.due("size", x.size(slot, 0), 1);
            Check.due("steps", x.size(slot, 1), 0);
            Check.due("product", x.product(slot, 0, 0), 0);
            Check.due("no 1", x.product(slot, 0, 1), -2);
            Check.due("name", Check.nameOf(x, slot, 0).equals("0") ? 1 : 0, 1);
        }
        Check.due("NONE", StepNets.NONE, -1);
        Check.due("tape", x.count(1), 0);
        Check.due("acts", x.count(0), 0);
    }

    private static void step() {
        StepNets x = Check.told("group c 5;", "group c 3;");
        Check.due("becomes one", x.step(0, 4), 1);
        Check.due("is one", x.element(0, 4, 2), 1);
        Check.due("of this slot alone", x.size(1, 1), 0);
        Check.due("is none any more", x.step(0, 4), 0);
        Check.due("is none", x.element(0, 4, 2), 0);
        Check.due("acts", x.count(0), 2);
        Check.due("0", x.step(0, 0), -2);
        Check.due("5", x.step(0, 5), -2);
        Check.due("-1", x.step(0, -1), -2);
        Check.due("3 of the other", x.step(1, 3), -2);
        Check.due("refused ones are no acts", x.count(0), 2);
    }

    private static void both() {
        StepNets x = Check.told("group d 4;steps 1 4;", "group c 2;");
        Check.due("3 comes", x.both(0), 3);
        Check.due("3 is one", x.element(0, 3, 2), 1);
        Check.due("all is as it was", x.both(0), 3);
        Check.due("an act all the same", x.count(0), 2);
        Check.due("none", x.both(1), 0);
        Check.due("acts", x.count(0), 3);
        Check.due("undo", x.undo(), 2);
        Check.due("undo", x.undo(), 1);
        Check.due("undo", x.undo(), 0);
        Check.due("3 is none", x.element(0, 3, 2), 0);
    }

    private static void quotient() {
        StepNets x = Check.told("group c 12;steps 1 4 6;", "group d 3;steps 1 3;");
        Check.due("by 0 4 8", x.quotient(0, 0b000100010001), 4);
        for (int i = 0; i < 4; i++) {
            for (int j = 0; j < 4; j++) {
                Check.due("sum by 4", x.product(0, i, j), (i + j) % 4);
            }
        }
        Check.due("1 is a step", x.element(0, 1, 2), 1);
        Check.due("2 is a step", x.element(0, 2, 2), 1);
        Check.due("3 is none", x.element(0, 3, 2), 0);
        Check.due("0 is none", x.element(0, 0, 2), 0);
        Check.due("not the whole", x.quotient(1, 0b001001), -5);
        Check.due("no subgroup", x.quotient(1, 0b000011), -5);
        Check.due("no set", x.quotient(1, 0), -5);
        Check.due("without 0", x.quotient(1, 0b000110), -5);
        Check.due("bits", x.quotient(1, 64), -3);
        Check.due("bits below 0", x.quotient(1, -1), -3);
        Check.due("bits ahead of normal", x.quotient(1, 0b1001001), -3);
        Check.due("slot ahead of bits", x.quotient(2, -1), -2);
        Check.due("acts", x.count(0), 1);
        Check.due("by all", x.quotient(1, 63), 1);
        Check.due("no steps", x.size(1, 1), 0);
        Check.holds("name", Check.nameOf(x, 1, 0).equals("0'"));
        Check.due("by 0 alone", x.quotient(0, 1), 4);
        Check.holds("two primes", Check.nameOf(x, 0, 3).equals("3''"));
        quotientIsNumberedByTheLeast();
    }

    private static void quotientIsNumberedByTheLeast() {
        StepNets x = Check.told("group d 4;steps 2 5;", "");
        Check.due("by 0 2", x.quotient(0, 0b101), 4);
        Check.holds("names", (Check.nameOf(x, 0, 1) + Check.nameOf(x, 0, 2) + Check.nameOf(x, 0, 3)).equals("1'4'5'"));
        Check.due("one step", x.size(0, 1), 1);
        Check.due("5 is 3", x.element(0, 3, 2), 1);
        Check.due("each undoes itself", x.size(0, 6), 2);
        Check.due("by 0 1", x.quotient(0, 0b11), 2);
        Check.holds("named as it was", Check.nameOf(x, 0, 1).equals("4''"));
    }

    private static void undo() {
        StepNets x = Check.told("group c 12;steps 1;", "group c 9;");
        Check.due("none", x.undo(), -5);
        String[] first = new String[11];
        String[] second = new String[11];
        for (int i = 0; i <= 10; i++) {
            first[i] = Check.seen(x, 0);
            second[i] = Check.seen(x, 1);
            if (i < 10) {
                act(x, i);
            }
            Check.due("acts", x.count(0), i < 10 ? Math.min(8, i + 1) : 8);
        }
        for (int i = 9; i >= 2; i--) {
            Check.due("undo", x.undo(), i - 2);
            Check.holds("slot 0 ahead of act " + i, first[i].equals(Check.seen(x, 0)));
            Check.holds("slot 1 ahead of act " + i, second[i].equals(Check.seen(x, 1)));
        }
        Check.due("not more than 8", x.undo(), -5);
        x.step(0, 2);
        Check.due("acts anew", x.count(0), 1);
        Check.due("undo", x.undo(), 0);
    }

    private static void act(StepNets x, int i) {
        switch (i) {
            case 0, 3 -> x.step(0, 2 + i);
            case 1, 6 -> x.both(i % 2);
            case 2 -> x.quotient(1, 0b001001001);
            case 4 -> x.quotient(0, 0b000001000001);
            case 5 -> x.step(1, 2);
            case 7 -> x.quotient(0, 0b010101);
            default -> x.step(0, 1);
        }
    }

    private static void sizes(String text, int... want) {
        StepNets x = Check.told(text, text);
        for (int what = 0; what < want.length; what++) {
            Check.due("size " + what + " of " + text, x.size(0, what), want[what]);
            Check.due("size " + what + " of " + text, x.size(1, what), want[what]);
        }
    }

    private static void size() {
        sizes("", 1, 0, 1, 1, 1, 1, 1);
        sizes("group c 12;steps 1 5;", 12, 2, 12, 12, 6, 1, 12);
        sizes("group c 2 x c 2 x c 2 x c 2;", 16, 0, 16, 16, 67, 1, 2);
        sizes("group d 4;", 8, 0, 2, 5, 10, 2, 4);
        sizes("group d 2;", 4, 0, 4, 4, 5, 1, 2);
        sizes("group d 10;", 20, 0, 2, 8, 22, 5, 10);
        sizes("group q 5;", 20, 0, 2, 8, 10, 5, 20);
        sizes("group q 2;", 8, 0, 2, 5, 6, 2, 4);
        sizes("group a;", 12, 0, 1, 4, 10, 4, 6);
        sizes("group d 3 x c 3;", 18, 0, 3, 9, 14, 3, 6);
        sizes("perms 12340,13024;", 20, 0, 1, 5, 14, 5, 20);
        StepNets x = new StepNets();
        Check.due("what 7", x.size(0, 7), -2);
        Check.due("what -1", x.size(0, -1), -2);
    }

    private static void product() {
        StepNets x = Check.told("group d 3;", "perms 120,021;");
        Check.due("3 4", x.product(0, 3, 4), 2);
        Check.due("4 3", x.product(0, 4, 3), 1);
        Check.due("orders: first the first", x.product(1, 1, 2), 4);
        Check.due("orders: then the second", x.product(1, 2, 1), 5);
        Check.due("x 6", x.product(0, 6, 0), -2);
        Check.due("y 6", x.product(0, 0, 6), -2);
        Check.due("x -1", x.product(0, -1, 0), -2);
        Check.due("y -1", x.product(0, 0, -1), -2);
    }

    private static void element() {
        StepNets x = Check.told("group q 3;steps 2;", "group c 12;steps 5;");
        int[] period = {1, 6, 3, 2, 3, 6, 4, 4, 4, 4, 4, 4};
        int[] inverse = {0, 5, 4, 3, 2, 1, 9, 10, 11, 6, 7, 8};
        int[] conjugates = {1, 2, 2, 1, 2, 2, 3, 3, 3, 3, 3, 3};
        for (int i = 0; i < 12; i++) {
            Check.due("inverse", x.element(0, i, 0), inverse[i]);
            Check.due("period", x.element(0, i, 1), period[i]);
            Check.due("step", x.element(0, i, 2), i == 2 ? 1 : 0);
            Check.due("class", x.element(0, i, 3), conjugates[i]);
        }
        Check.due("inverse of 5 in c 12", x.element(1, 5, 0), 7);
        Check.due("what 4", x.element(0, 1, 4), -2);
        Check.due("what -1", x.element(0, 1, -1), -2);
        Check.due("12", x.element(0, 12, 0), -2);
        Check.due("-1", x.element(0, -1, 0), -2);
    }

    private static void classOf() {
        StepNets x = Check.told("group d 4;", "group a;");
        int[] want = {1, 0b1010, 0b100, 0b1010, 0b1010000, 0b10100000, 0b1010000, 0b10100000};
        for (int i = 0; i < 8; i++) {
            Check.due("class of " + i, x.classOf(0, i), want[i]);
        }
        Check.due("even, two swaps", x.classOf(1, 3), 1 << 3 | 1 << 8 | 1 << 11);
        Check.due("8", x.classOf(0, 8), -2);
        Check.due("-1", x.classOf(0, -1), -2);
    }

    private static void generated() {
        StepNets x = Check.told("group c 12;", "group d 3;");
        Check.due("none", x.generated(0, 0), 1);
        Check.due("0", x.generated(0, 1), 1);
        Check.due("8", x.generated(0, 1 << 8), 0b000100010001);
        Check.due("4 6", x.generated(0, 1 << 4 | 1 << 6), 0b010101010101);
        Check.due("3 4", x.generated(0, 1 << 3 | 1 << 4), 4095);
        Check.due("two flips", x.generated(1, 0b11000), 63);
        Check.due("bits", x.generated(0, 4096), -3);
        Check.due("below 0", x.generated(0, Integer.MIN_VALUE), -3);
        Check.due("slot ahead of bits", x.generated(3, -1), -2);
    }

    private static void subgroup() {
        StepNets x = Check.told("group d 3;", "group c 2 x c 2;");
        int[] want = {0b1, 0b111, 0b1001, 0b10001, 0b100001, 0b111111};
        for (int k = 0; k < want.length; k++) {
            Check.due("subgroup " + k, x.subgroup(0, k), want[k]);
        }
        Check.due("not so many", x.subgroup(0, 6), -1);
        Check.due("most", x.subgroup(0, Integer.MAX_VALUE), -1);
        Check.due("below 0", x.subgroup(0, -1), -3);
        Check.due("slot ahead of k", x.subgroup(-1, -1), -2);
        int[] four = {1, 3, 5, 9, 15};
        for (int k = 0; k < four.length; k++) {
            Check.due("subgroup " + k, x.subgroup(1, k), four[k]);
        }
    }

    private static void kind() {
        StepNets x = Check.told("group d 3;", "group q 2;");
        Check.due("0", x.kind(0, 1), 2);
        Check.due("turns", x.kind(0, 0b111), 2);
        Check.due("all", x.kind(0, 63), 2);
        Check.due("a flip", x.kind(0, 0b1001), 1);
        Check.due("none", x.kind(0, 0), 0);
        Check.due("without 0", x.kind(0, 0b110), 0);
        Check.due("two", x.kind(0, 0b11), 0);
        for (int k = 0; k < 6; k++) {
            Check.due("all of q 2 are normal", x.kind(1, x.subgroup(1, k)), 2);
        }
        Check.due("bits", x.kind(0, 64), -3);
        Check.due("below 0", x.kind(0, -1), -3);
        Check.due("slot ahead of bits", x.kind(2, -1), -2);
    }

    private static void mapsOf(String text, int want) {
        StepNets x = Check.told(text, text);
        Check.due("maps of " + text, x.maps(0), want);
        Check.due("maps of " + text, x.maps(0), want);
        Check.due("maps of " + text, x.maps(1), want);
    }

    private static void maps() {
        mapsOf("", 1);
        mapsOf("group c 2;", 1);
        mapsOf("group c 20;", 8);
        mapsOf("group c 19;", 18);
        mapsOf("group c 2 x c 2;", 6);
        mapsOf("group c 3 x c 3;", 48);
        mapsOf("group c 2 x c 2 x c 2 x c 2;steps 1;", 20160);
        mapsOf("group d 10;", 40);
        mapsOf("group q 2;", 24);
        mapsOf("group q 2 x c 2;", 192);
        mapsOf("group a;", 24);
    }

    private static void mapped() {
        StepNets x = Check.told("group c 6;steps 1;", "group c 2 x c 3;");
        int[] want = {0, 3, 4, 1, 2, 5};
        for (int i = 0; i < 6; i++) {
            Check.due("c 6 on c 2 x c 3", x.mapped(i), want[i]);
        }
        Check.due("6", x.mapped(6), -2);
        Check.due("-1", x.mapped(-1), -2);
        Check.tell(x, 1, "group d 3;");
        Check.due("c 6 on d 3", x.mapped(3), -1);
        Check.due("6 ahead of none", x.mapped(6), -2);
        Check.tell(x, 1, "group c 7;");
        Check.due("c 6 on c 7", x.mapped(5), -1);
        Check.due("6 is none of slot 0", x.mapped(6), -2);
        Check.tell(x, 0, "group a;");
        Check.tell(x, 1, "perms 1203,1032;");
        for (int i = 0; i < 12; i++) {
            for (int j = 0; j < 12; j++) {
                Check.due("keeps products", x.mapped(x.product(0, i, j)), x.product(1, x.mapped(i), x.mapped(j)));
            }
        }
    }

    private static void far() {
        StepNets x = Check.told("group c 7;steps 1;", "group d 5;steps 1 5;");
        Check.due("to itself", x.far(0, 3, 3), 0);
        Check.due("on", x.far(0, 2, 5), 3);
        Check.due("round", x.far(0, 5, 2), 4);
        Check.due("flip and turn", x.far(1, 0, 6), 2);
        Check.due("a turn behind a flip", x.far(1, 5, 9), 1);
        Check.due("turns behind a flip", x.far(1, 5, 6), 3);
        Check.tell(x, 0, "steps 2;");
        Check.due("by 2", x.far(0, 0, 1), 4);
        Check.tell(x, 0, "group c 6;steps 2;");
        Check.due("no way", x.far(0, 0, 1), -1);
        Check.due("g", x.far(0, 6, 0), -2);
        Check.due("h", x.far(0, 0, 6), -2);
        Check.due("below 0", x.far(0, -1, 0), -2);
    }

    private static void sphere() {
        StepNets x = Check.told("group c 8;steps 1 7;", "group c 8;steps 2;");
        int[] want = {1, 2, 2, 2, 1, 0};
        for (int k = 0; k < want.length; k++) {
            Check.due("sphere " + k, x.sphere(0, k), want[k]);
        }
        Check.due("greatest", x.sphere(0, -1), 4);
        Check.due("far behind", x.sphere(0, Integer.MAX_VALUE), 0);
        Check.due("k -2", x.sphere(0, -2), -3);
        Check.due("slot ahead of k", x.sphere(2, -2), -2);
        Check.due("greatest that is come to", x.sphere(1, -1), 3);
        Check.due("sphere 1", x.sphere(1, 1), 1);
        Check.due("sphere 4", x.sphere(1, 4), 0);
    }

    private static void way() {
        StepNets x = Check.told("group c 10;steps 2 3 5;", "group d 4;steps 1 4;");
        Check.due("7: 2 first", x.way(0, 7, 0), 2);
        Check.due("7: then 5", x.way(0, 7, 1), 5);
        Check.due("7: no more", x.way(0, 7, 2), -1);
        Check.due("5: at once", x.way(0, 5, 0), 5);
        Check.due("1: three", x.way(0, 1, 0), 3);
        Check.due("1: three", x.way(0, 1, 1), 3);
        Check.due("1: three", x.way(0, 1, 2), 5);
        Check.due("0: none", x.way(0, 0, 0), -1);
        Check.due("i most", x.way(0, 7, Integer.MAX_VALUE), -1);
        Check.due("i -1", x.way(0, 7, -1), -3);
        Check.due("h ahead of i", x.way(0, 10, -1), -2);
        Check.due("h -1", x.way(0, -1, 0), -2);
        Check.tell(x, 0, "steps 2;");
        Check.due("there is none", x.way(0, 1, 0), -1);
        Check.due("7 is 4, 1", x.way(1, 7, 0), 4);
        Check.due("7 is 4, 1", x.way(1, 7, 1), 1);
    }

    private static void ringOf(String text, int want) {
        Check.due("ring of " + text, Check.told(text, "").ring(0), want);
    }

    private static void ring() {
        ringOf("", -1);
        ringOf("group c 2;steps 1;", -1);
        ringOf("group c 9;", -1);
        ringOf("group c 3;steps 1;", 3);
        ringOf("group c 4;steps 1;", 4);
        ringOf("group c 4;steps 1 3;", 4);
        ringOf("group c 4;steps 2;", -1);
        ringOf("group c 20;steps 1;", 20);
        ringOf("group c 20;steps 1 10;", 11);
        ringOf("group c 8;steps 1 2;", 4);
        ringOf("group c 10;steps 2 5;", 5);
        ringOf("group c 4;steps 1 2 3;", 3);
        ringOf("group d 5;steps 5 6;", 10);
        ringOf("group d 1 x d 1;steps 1 2;", 4);
    }

    private static void partsOf(String text, int want) {
        Check.due("parts of " + text, Check.told(text, "").parts(0), want);
    }

    private static void parts() {
        partsOf("", 1);
        partsOf("group c 9;", 9);
        partsOf("group c 9;steps 3;", 3);
        partsOf("group c 9;steps 1;", 1);
        partsOf("group d 10;steps 10;", 10);
        partsOf("group d 10;steps 10 12;", 2);
        partsOf("group a;steps 3 8;", 3);
    }

    private static void symmetriesOf(String text, long want) {
        StepNets x = Check.told("", text);
        Check.due("symmetries of " + text, x.symmetries(1), want);
        Check.due("symmetries of " + text, x.symmetries(1), want);
    }

    private static void symmetries() {
        symmetriesOf("group c 20;", 2432902008176640000L);
        symmetriesOf("group c 20;steps 1 2 3 4 5 6 7 8 9 10 11 12 13 14 15 16 17 18 19;", 2432902008176640000L);
        symmetriesOf("group c 20;steps 10;", 1024L * 3628800L);
        symmetriesOf("group c 20;steps 4 16;", 10000L * 24L);
        symmetriesOf("group c 20;steps 4;", 625L * 24L);
        symmetriesOf("group c 19;steps 1;", 19);
        symmetriesOf("group c 19;steps 1 18;", 38);
        symmetriesOf("group c 2 x c 2 x c 2 x c 2;steps 1 2 4 8;", 384);
        symmetriesOf("group c 4 x c 4;steps 1 3 4 12 5 15;", 192);
        symmetriesOf("group c 4 x c 4;steps 1 2 3 4 8 12;", 1152);
        symmetriesOf("group d 5;steps 5 6;", 20);
        symmetriesOf("group c 13;steps 1 3 4 9 10 12;", 78);
        symmetriesOf("group c 13;steps 2 5 6 7 8 11;", 78);
        symmetriesOf("group c 17;steps 1 2 4 8 9 13 15 16;", 136);
        symmetriesOf("group c 17;steps 3 5 6 7 10 11 12 14;", 136);
        symmetriesOf("group c 10 x c 2;steps 1 9 10;", 40);
        symmetriesOf("group d 10;steps 1 9 10;", 40);
    }

    private static void alikeTo() {
        StepNets x = Check.told("group c 8;steps 1 7;", "group c 6;steps 2;");
        int[] want = {1, 0x82, 0x44, 0x28, 0x10, 0x28, 0x44, 0x82};
        for (int i = 0; i < 8; i++) {
            Check.due("alike to " + i, x.alikeTo(0, i), want[i]);
        }
        Check.due("the other ring", x.alikeTo(1, 1), 0b101010);
        Check.due("of an own ring", x.alikeTo(1, 2), 0b100);
        x.step(0, 7);
        Check.due("one way", x.alikeTo(0, 1), 2);
        Check.due("8", x.alikeTo(0, 8), -2);
        Check.due("-1", x.alikeTo(0, -1), -2);
    }

    private static void regularOf(String text, int arcs, int far, int normal, int own) {
        StepNets x = Check.told(text, "");
        Check.due("all arcs alike: " + text, x.regular(0, 0), arcs);
        Check.due("all far alike: " + text, x.regular(0, 1), far);
        Check.due("normal: " + text, x.regular(0, 2), normal);
        Check.due("own: " + text, x.regular(0, 3), own);
    }

    private static void regular() {
        regularOf("", 0, 1, 1, 1);
        regularOf("group c 3;", 0, 1, 1, 2);
        regularOf("group c 4;", 0, 1, 0, 2);
        regularOf("group c 8;steps 1 7;", 1, 1, 1, 2);
        regularOf("group c 8;steps 1;", 1, 1, 1, 1);
        regularOf("group c 6;steps 2;", 1, 1, 0, 1);
        regularOf("group c 6;steps 1 5 3;", 1, 1, 0, 2);
        regularOf("group c 6;steps 2 4 3;", 0, 0, 1, 2);
        regularOf("group d 5;steps 5 6;", 1, 1, 1, 2);
        regularOf("group c 4;steps 1 2 3;", 1, 1, 0, 2);
        regularOf("group c 4;steps 1 2;", 0, 0, 1, 1);
        regularOf("group c 13;steps 1 3 4 9 10 12;", 1, 1, 1, 6);
        regularOf("group c 17;steps 3 5 6 7 10 11 12 14;", 1, 1, 1, 8);
        StepNets x = new StepNets();
        Check.due("what 4", x.regular(0, 4), -2);
        Check.due("what -1", x.regular(0, -1), -2);
    }

    private static void alike() {
        StepNets x = Check.told("group c 4;steps 1 3;", "group c 2 x c 2;steps 1 2;");
        int[] want = {0, 1, 3, 2};
        for (int i = 0; i < 4; i++) {
            Check.due("a ring of four", x.alike(i), want[i]);
        }
        Check.due("4", x.alike(4), -2);
        Check.due("-1", x.alike(-1), -2);
        x.step(1, 3);
        Check.due("more arcs", x.alike(0), -1);
        Check.due("4 ahead of none", x.alike(4), -2);
        x.undo();
        Check.due("undone", x.alike(2), 3);
        Check.tell(x, 1, "group c 5;steps 1 4;");
        Check.due("unlike size", x.alike(1), -1);
        x = Check.told("group c 4 x c 4;steps 1 3 4 12 5 15;", "group c 4 x c 4;steps 1 2 3 4 8 12;");
        Check.due("alike in numbers, not in shape", x.alike(0), -1);
        x = Check.told("group c 5;steps 1;", "group c 5;steps 2;");
        Check.due("2 is 4", x.alike(2), 4);
        Check.due("3 is 1", x.alike(3), 1);
    }

    private static void other() {
        StepNets x = Check.told("group c 6;steps 1 5;", "group d 3;");
        Check.due("two flips", x.other(), 0b11000);
        x.step(0, 3);
        Check.due("three flips, or a turn both ways and a flip", x.other(), 0b111000);
        x.step(0, 2);
        Check.due("four steps", x.size(0, 1), 4);
        Check.holds("with four it is looked for", x.other() != -4);
        x.step(0, 4);
        Check.due("five steps", x.other(), -4);
        Check.tell(x, 1, "group c 5;");
        Check.due("unlike size ahead of too many", x.other(), -5);
        Check.tell(x, 0, "group c 5;");
        Check.due("no steps", x.other(), 0);
        Check.tell(x, 0, "group c 4;steps 1;");
        Check.tell(x, 1, "group c 2 x c 2;steps 1 2;");
        Check.due("none", x.other(), -1);
        Check.due("the steps of slot 1 stay", x.size(1, 1), 2);
        Check.tell(x, 1, "group c 4;steps 2;");
        Check.due("the least", x.other(), 2);
        Check.tell(x, 0, "steps 3;");
        Check.due("the least", x.other(), 2);
    }

    private static void name() {
        StepNets x = Check.told("group c 12 x c 1;", "perms 12340;");
        Check.holds("11,0", Check.nameOf(x, 0, 11).equals("11,0"));
        Check.holds("34012", Check.nameOf(x, 1, 3).equals("34012"));
        Check.holds("01234", Check.nameOf(x, 1, 0).equals("01234"));
        x.quotient(0, 0b000001000001);
        Check.holds("5,0'", Check.nameOf(x, 0, 5).equals("5,0'"));
        x.quotient(1, 1);
        Check.holds("34012'", Check.nameOf(x, 1, 3).equals("34012'"));
        Check.due("not so many", x.name(1, 3, 6), -1);
        Check.due("i most", x.name(1, 3, Integer.MAX_VALUE), -1);
        Check.due("i -1", x.name(1, 3, -1), -3);
        Check.due("x ahead of i", x.name(1, 5, -1), -2);
        Check.due("x -1", x.name(1, -1, 0), -2);
        Check.tell(x, 1, "steps 1;");
        Check.holds("steps leave names", Check.nameOf(x, 1, 3).equals("34012'"));
        Check.tell(x, 1, "group c 5;");
        Check.holds("a new group has new names", Check.nameOf(x, 1, 3).equals("3"));
        Check.tell(x, 0, "group d 1 x c 2 x q 1;");
        Check.tell(x, 0, "group d 5 x c 2;");
        Check.holds("9,1", Check.nameOf(x, 0, 19).equals("9,1"));
        Check.tell(x, 0, "group c 2 x d 5;");
        Check.holds("1,9", Check.nameOf(x, 0, 19).equals("1,9"));
        manyPrimes();
    }

    private static void manyPrimes() {
        StepNets x = Check.told("group c 3;", "");
        for (int i = 0; i < 300; i++) {
            x.quotient(0, 1);
        }
        Check.due("301 bytes", Check.nameOf(x, 0, 2).length(), 301);
        Check.due("the last one", x.name(0, 2, 300), 39);
    }

    private static void count() {
        StepNets x = new StepNets();
        Check.due("acts", x.count(0), 0);
        Check.due("tape", x.count(1), 0);
        Check.due("2", x.count(2), -1);
        Check.due("-1", x.count(-1), -1);
        for (int i = 1; i <= 12; i++) {
            x.both(i % 2);
            Check.due("acts", x.count(0), Math.min(8, i));
        }
        x.feed(0, 0, 0, 0, 0);
        Check.due("tape", x.count(1), 20);
    }

    private static void slotsThatAreNone() {
        StepNets x = new StepNets();
        for (int slot : NO_SLOTS) {
            long[] answers = {
                x.tell(slot, 0), x.step(slot, 1), x.both(slot), x.quotient(slot, 1), x.size(slot, 0),
                x.product(slot, 0, 0), x.element(slot, 0, 0), x.classOf(slot, 0), x.generated(slot, 1),
                x.subgroup(slot, 0), x.kind(slot, 1), x.maps(slot), x.far(slot, 0, 0), x.sphere(slot, 0),
                x.way(slot, 0, 0), x.ring(slot), x.parts(slot), x.symmetries(slot), x.alikeTo(slot, 0),
                x.regular(slot, 0), x.name(slot, 0, 0)
            };
            for (int i = 0; i < answers.length; i++) {
                Check.due("call " + i + " of slot " + slot, answers[i], -2);
            }
        }
        Check.due("nothing was done", x.count(0), 0);
    }
}
