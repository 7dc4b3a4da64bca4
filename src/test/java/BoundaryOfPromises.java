/** Boundary cases that the promises 1 to 29 name, sentence by sentence. */
final class BoundaryOfPromises {
    private static final int LEAST = Integer.MIN_VALUE;
    private static final int MOST = Integer.MAX_VALUE;
    private static final int ALL_OF_TWENTY = (1 << 20) - 1;
    private static final String ALL_STEPS = "steps 1 2 3 4 5 6 7 8 9 10 11 12 13 14 15 16 17 18 19;";

    private BoundaryOfPromises() {
    }

    static void run() {
        newObject();
        feed();
        tell();
        fault();
        step();
        both();
        quotient();
        undo();
        size();
        product();
        element();
        classOf();
        generated();
        subgroup();
        kind();
        maps();
        mapped();
        far();
        sphere();
        way();
        ring();
        parts();
        symmetries();
        alikeTo();
        regular();
        alike();
        other();
        name();
        count();
    }

    private static StepNets told(String text) {
        return Check.told(text, "");
    }

    private static void newObject() {
        Doc.promise(1, "Both GROUPS have 0 alone.");
        StepNets x = new StepNets();
        for (int slot = 0; slot < 2; slot++) {
            Check.due("elements", x.size(slot, 0), 1);
            Check.due("0 times 0", x.product(slot, 0, 0), 0);
            Check.due("1 is none", x.product(slot, 1, 0), -2);
            Check.due("1 is none", x.product(slot, 0, 1), -2);
            Check.due("1 is none", x.step(slot, 1), -2);
            Check.due("no steps", x.size(slot, 1), 0);
            Check.due("all", x.generated(slot, 1), 1);
        }
        Check.due("no acts", x.count(0), 0);
        Check.due("no bytes", x.count(1), 0);
        StepNets y = new StepNets();
        Check.tell(y, 0, "group c 3;");
        Check.due("another object is another one", x.size(0, 0), 1);
        Check.due("a third one, too", new StepNets().size(0, 0), 1);
    }

    private static void feed() {
        Doc.promise(2, "Twenty bytes come behind those on THE TAPE, the highest of each int first: how many it has.");
        StepNets x = new StepNets();
        Check.due("first twenty", x.feed(0x67726f75, 0x70206320, 0x3139203b, 0x20202020, 0x2020206f), 20);
        x.tell(0, 19);
        Check.due("group c 19 ;", x.size(0, 0), 19);
        Check.due("the tape begins anew", x.feed(0x626f7468, 0x3b626f74, 0x683b626f, 0x74683b62, 0x6f74683b), 20);
        Check.due("behind them", x.feed(0x73746570, 0x73203139, 0x3b202020, 0x20202020, 0x20202020), 40);
        Check.due("19 is none of 19", x.tell(0, 40), -32);
        Check.due("its place is behind the first twenty", x.fault(1), 26);
        Check.due("highest bits set", x.feed(-1, LEAST, 0x80808080, MOST, 0), 20);
        Check.due("no such byte can stand", x.tell(0, 20), -31);
        Check.due("at the first", x.fault(1), 0);
        x.feed(0x626f7468, 0x3b2020ff, 0, 0, 0);
        Check.due("the lowest is the last of four", x.tell(0, 8), -31);
        Check.due("at it", x.fault(1), 7);
        Doc.promise(2, "-4: it would have more than 300.");
        StepNets y = new StepNets();
        for (int i = 1; i <= 15; i++) {
            Check.due("feed " + i, y.feed(0x20202020, 0x20202020, 0x20202020, 0x20202020, 0x20202020), 20 * i);
        }
        Check.due("it has 300", y.count(1), 300);
        Check.due("it would have 320", y.feed(0, 0, 0, 0, 0), -4);
        Check.due("once more", y.feed(0, 0, 0, 0, 0), -4);
        Check.due("it still has 300", y.count(1), 300);
        Check.due("300 blanks", y.tell(0, 300), 1);
        Check.due("there is room again", y.feed(0, 0, 0, 0, 0), 20);
    }

    private static void tell() {
        Doc.promise(3, "The first n bytes of THE TAPE (which is empty then) are THE TEXT of a SLOT: how many ELEMENTS it has.");
        StepNets x = new StepNets();
        Check.feed(x, "group c 3;group c 4;");
        Check.due("the first 10 of 20", x.tell(0, 10), 3);
        Check.due("the tape is empty", x.count(1), 0);
        Check.feed(x, "group c 3;group c 4;");
        Check.due("the first 11: g", x.tell(1, 11), -31);
        Check.due("the tape is empty", x.count(1), 0);
        Check.feed(x, "group c 20;" + ALL_STEPS);
        Check.due("none of 80", x.tell(1, 0), 1);
        Check.due("the tape is empty", x.count(1), 0);
        Check.due("none of none", x.tell(0, 0), 3);
        Check.feed(x, " ".repeat(284) + "group c 5;both; ");
        Check.due("all 300", x.tell(1, 300), 5);
        Check.due("of its slot", x.size(0, 0), 3);
        Check.feed(x, " ".repeat(285) + "group c 6;both;");
        Check.due("299 of 300: the end", x.tell(1, 299), -31);
        Check.due("its place", x.fault(1), 299);
        Check.due("the slot stays", x.size(1, 0), 5);
        Doc.promise(3, "-2; -3: n is below 0, above what there is (THE TAPE stays with -2, -3); a FAULT.");
        StepNets y = new StepNets();
        Check.due("above none", y.tell(0, 1), -3);
        Check.due("below 0", y.tell(0, -1), -3);
        Check.feed(y, "group c 7;          ");
        int[] wrong = {LEAST, -1, 21, 40, 300, MOST};
        for (int n : wrong) {
            Check.due("n " + n, y.tell(0, n), -3);
            Check.due("slot 2, n " + n, y.tell(2, n), -2);
            Check.due("slot -1, n " + n, y.tell(-1, n), -2);
        }
        Check.due("slot 2", y.tell(2, 20), -2);
        Check.due("the tape stays", y.count(1), 20);
        Check.due("no fault of that", y.fault(0), 0);
        Check.due("all there is", y.tell(0, 20), 7);
        Check.due("a fault", Check.tell(y, 0, "x"), -31);
        Check.due("a fault", Check.tell(y, 0, "group c 0"), -32);
        Check.due("a fault", Check.tell(y, 0, "group a x a"), -33);
        Check.due("the slot stays", y.size(0, 0), 7);
    }

    private static void fault() {
        Doc.promise(4,
            "Of the latest tell() that emptied THE TAPE (be it of no byte), what 0: its FAULT (0), 1: its place (NONE).");
        StepNets x = new StepNets();
        Check.tell(x, 0, "group a x a;");
        Check.due("fault 3", x.fault(0), 3);
        Check.due("its place", x.fault(1), 10);
        Check.due("asking changes nothing", x.fault(0), 3);
        Check.tell(x, 1, "!");
        Check.due("of any slot", x.fault(0), 1);
        Check.due("place 0", x.fault(1), 0);
        x.tell(0, 1);
        x.tell(2, 0);
        x.tell(0, -1);
        Check.due("refused ones emptied nothing", x.fault(0), 1);
        Check.due("place 0", x.fault(1), 0);
        Check.feed(x, "group c 0;");
        Check.due("none told yet", x.fault(0), 1);
        Check.due("refused", x.tell(2, 10), -2);
        Check.due("none told yet", x.fault(0), 1);
        Check.due("told", x.tell(1, 10), -32);
        Check.due("fault 2", x.fault(0), 2);
        Check.due("place 8", x.fault(1), 8);
        Check.due("of no byte", x.tell(0, 0), 1);
        Check.due("no fault", x.fault(0), 0);
        Check.due("no place", x.fault(1), -1);
        Check.tell(x, 0, "both");
        Check.due("the end is a place", x.fault(1), 4);
        Check.tell(x, 0, "both;");
        Check.due("a taken one", x.fault(0), 0);
        Check.due("has no place", x.fault(1), -1);
        Doc.promise(4, "NONE for others, and for place ahead of any.");
        StepNets y = new StepNets();
        Check.due("place ahead of any", y.fault(1), -1);
        Check.due("fault ahead of any", y.fault(0), 0);
        y.tell(5, 0);
        y.tell(0, 1);
        Check.due("place, refused ones alone", y.fault(1), -1);
        Check.tell(y, 0, "!");
        for (int what : new int[] {LEAST, -2, -1, 2, 3, MOST}) {
            Check.due("what " + what, y.fault(what), -1);
        }
    }

    private static void step() {
        Doc.promise(5, "An ELEMENT (but 0) becomes a STEP, or is none any more: 1 if it is one then, else 0.");
        StepNets x = told("group c 20;");
        Check.due("1, the first that can be", x.step(0, 1), 1);
        Check.due("19, the last that can be", x.step(0, 19), 1);
        Check.due("two", x.size(0, 1), 2);
        Check.due("19 no more", x.step(0, 19), 0);
        Check.due("19 again", x.step(0, 19), 1);
        Check.due("1 no more", x.step(0, 1), 0);
        Check.due("one", x.size(0, 1), 1);
        for (int i = 1; i < 19; i++) {
            Check.due("step " + i, x.step(0, i), 1);
        }
        Check.due("all but 0", x.size(0, 1), 19);
        Check.due("told ones go, too", told("group c 2;steps 1;").step(0, 1), 0);
        Doc.promise(5, "-2 (0, too).");
        Check.due("0", x.step(0, 0), -2);
        Check.due("20", x.step(0, 20), -2);
        Check.due("-1", x.step(0, -1), -2);
        Check.due("33, whose bit is that of 1", x.step(0, 33), -2);
        Check.due("slot 2", x.step(2, 1), -2);
        Check.due("slot -1", x.step(-1, 1), -2);
        Check.due("all as it was", x.size(0, 1), 19);
        Check.due("of 0 alone none can be", new StepNets().step(0, 1), -2);
        Check.due("of 0 alone none can be", new StepNets().step(0, 0), -2);
    }

    private static void both() {
        Doc.promise(6, "INVERSES of all STEPS are STEPS, too: how many STEPS there are.");
        Check.due("0 alone", new StepNets().both(0), 0);
        Check.due("no steps", told("group c 20;").both(0), 0);
        Check.due("its own inverse", told("group c 20;steps 10;").both(0), 1);
        Check.due("one more", told("group c 20;steps 19;").both(0), 2);
        Check.due("both are there", told("group c 20;steps 1 19;").both(0), 2);
        Check.due("all are there", told("group c 20;" + ALL_STEPS).both(0), 19);
        Check.due("half of them", told("group c 19;steps 1 2 3 4 5 6 7 8 9;").both(0), 18);
        Doc.promise(6, "-2.");
        Check.due("slot 2", new StepNets().both(2), -2);
        Check.due("slot -1", new StepNets().both(-1), -2);
    }

    private static void quotient() {
        Doc.promise(7, "A SLOT becomes its QUOTIENT by a set (bits): how many ELEMENTS.");
        Check.due("0 alone", new StepNets().quotient(1, 1), 1);
        StepNets x = told("group c 20;" + ALL_STEPS);
        Check.due("by 0", x.quotient(0, 1), 20);
        Check.due("19 steps", x.size(0, 1), 19);
        Check.due("by 0 10", x.quotient(0, 1 << 10 | 1), 10);
        Check.due("9 steps", x.size(0, 1), 9);
        Check.due("by 0 5", x.quotient(0, 1 << 5 | 1), 5);
        Check.due("by all", x.quotient(0, 31), 1);
        Check.due("no steps", x.size(0, 1), 0);
        Check.due("by all, that is 0", x.quotient(0, 1), 1);
        Check.due("by all of 20", told("group d 10;").quotient(0, ALL_OF_TWENTY), 1);
        Check.due("the other slot stays", x.size(1, 0), 1);
        Doc.promise(7, "-2; -3: the bits (of no ELEMENTS); -5: it is no NORMAL SUBGROUP.");
        StepNets y = told("group c 20;");
        Check.due("slot 2", y.quotient(2, 1), -2);
        Check.due("slot -1", y.quotient(-1, 1), -2);
        Check.due("bit 20", y.quotient(0, 1 << 20), -3);
        Check.due("bit 20 and all others", y.quotient(0, 1 << 20 | ALL_OF_TWENTY), -3);
        Check.due("bit 31", y.quotient(0, LEAST), -3);
        Check.due("bit 31 and 0", y.quotient(0, LEAST | 1), -3);
        Check.due("all bits", y.quotient(0, -1), -3);
        Check.due("none", y.quotient(0, 0), -5);
        Check.due("without 0", y.quotient(0, ALL_OF_TWENTY - 1), -5);
        Check.due("all but the last", y.quotient(0, ALL_OF_TWENTY >> 1), -5);
        Check.due("no subgroup", y.quotient(0, 3), -5);
        Check.due("bit 1 of 0 alone", new StepNets().quotient(0, 2), -3);
        Check.due("bits 0 1 of 0 alone", new StepNets().quotient(0, 3), -3);
        StepNets d = told("group d 10;");
        Check.due("a flip", d.quotient(0, 1 << 19 | 1), -5);
        Check.due("turns by five and flips", d.quotient(0, 1 << 5 | 1 << 10 | 1 << 15 | 1), -5);
        Check.due("turns by five", d.quotient(0, 1 << 5 | 1), 10);
        Check.due("bits of those that are gone", d.quotient(0, 1 << 10), -3);
        Check.due("all that are left", d.quotient(0, 1023), 1);
        Check.due("two acts", d.count(0), 2);
    }

    private static void undo() {
        Doc.promise(8, "The latest ACT is UNDONE: how many still can be.");
        StepNets x = Check.told("group d 3;steps 1;", "group c 3;steps 1;");
        x.step(0, 3);
        Check.due("one", x.undo(), 0);
        Check.due("3 is none", x.element(0, 3, 2), 0);
        Check.due("undoing is no act", x.count(0), 0);
        x.both(1);
        x.quotient(0, 7);
        Check.due("the quotient", x.undo(), 1);
        Check.due("six again", x.size(0, 0), 6);
        Check.due("with its step", x.element(0, 1, 2), 1);
        Check.due("with its names", Check.nameOf(x, 0, 5).length(), 1);
        Check.due("with its products", x.product(0, 3, 1), 5);
        Check.due("two steps in slot 1", x.size(1, 1), 2);
        Check.due("both", x.undo(), 0);
        Check.due("one step in slot 1", x.size(1, 1), 1);
        Doc.promise(8, "-5: none can.");
        Check.due("none is left", x.undo(), -5);
        Check.due("of a new object", new StepNets().undo(), -5);
        for (int i = 0; i < 9; i++) {
            x.step(0, 2);
        }
        for (int i = 7; i >= 0; i--) {
            Check.due("of nine, eight", x.undo(), i);
        }
        Check.due("not the ninth", x.undo(), -5);
        Check.due("the first stays done", x.element(0, 2, 2), 1);
    }

    private static void sizes(String text, int... want) {
        StepNets x = Check.told("", text);
        for (int what = 0; what < 7; what++) {
            Check.due("size " + what + " of " + text, x.size(1, what), want[what]);
        }
    }

    private static void size() {
        Doc.promise(9, "Of a SLOT, what 0 ELEMENTS, 1 STEPS, 2 ELEMENTS of CENTRE, 3 CLASSES, 4 SUBGROUPS, "
            + "5 ELEMENTS of DERIVED, 6 the least common multiple of all PERIODS.");
        sizes("", 1, 0, 1, 1, 1, 1, 1);
        sizes("group c 2;steps 1;", 2, 1, 2, 2, 2, 1, 2);
        sizes("group c 20;" + ALL_STEPS, 20, 19, 20, 20, 6, 1, 20);
        sizes("group c 19;", 19, 0, 19, 19, 2, 1, 19);
        sizes("group d 10;", 20, 0, 2, 8, 22, 5, 10);
        sizes("group d 9;", 18, 0, 1, 6, 16, 9, 18);
        sizes("group q 5;", 20, 0, 2, 8, 10, 5, 20);
        sizes("group q 2;", 8, 0, 2, 5, 6, 2, 4);
        sizes("group a;", 12, 0, 1, 4, 10, 4, 6);
        sizes("group c 2 x c 2 x c 2 x c 2;", 16, 0, 16, 16, 67, 1, 2);
        sizes("group c 2 x c 2 x c 2;", 8, 0, 8, 8, 16, 1, 2);
        sizes("group d 4 x c 2;", 16, 0, 4, 10, 35, 2, 4);
        sizes("perms 12340,13024;", 20, 0, 1, 5, 14, 5, 20);
        Doc.promise(9, "-2.");
        StepNets x = new StepNets();
        Check.due("what 6", x.size(0, 6), 1);
        Check.due("what 7", x.size(0, 7), -2);
        Check.due("what -1", x.size(0, -1), -2);
        Check.due("slot 2", x.size(2, 6), -2);
        Check.due("slot -1", x.size(-1, 0), -2);
    }

    private static void product() {
        Doc.promise(10, "x times y.");
        Check.due("0 alone", new StepNets().product(1, 0, 0), 0);
        StepNets x = told("group d 10;");
        Check.due("first and last", x.product(0, 0, 19), 19);
        Check.due("last and first", x.product(0, 19, 0), 19);
        Check.due("last and last", x.product(0, 19, 19), 0);
        Check.due("1 times the last", x.product(0, 1, 19), 10);
        Check.due("the last times 1", x.product(0, 19, 1), 18);
        Doc.promise(10, "-2: the SLOT, x, y.");
        Check.due("slot 2", x.product(2, 0, 0), -2);
        Check.due("slot -1", x.product(-1, 0, 0), -2);
        Check.due("x 20", x.product(0, 20, 0), -2);
        Check.due("x -1", x.product(0, -1, 19), -2);
        Check.due("y 20", x.product(0, 0, 20), -2);
        Check.due("y -1", x.product(0, 19, -1), -2);
        Check.due("x 19 of slot 1", x.product(1, 19, 0), -2);
        Check.due("x most", x.product(0, MOST, 0), -2);
        Check.due("y least", x.product(0, 0, LEAST), -2);
    }

    private static void element() {
        Doc.promise(11, "Of an ELEMENT, what 0 INVERSE, 1 PERIOD, 2 1 if it is a STEP, else 0, 3 how many its CLASS has.");
        StepNets x = told("group d 9;steps 1 17;");
        int[][] want = {{0, 1, 0, 1}, {8, 9, 1, 2}, {7, 9, 0, 2}, {6, 3, 0, 2}};
        for (int i = 0; i < 4; i++) {
            for (int what = 0; what < 4; what++) {
                Check.due("element " + i + ", what " + what, x.element(0, i, what), want[i][what]);
            }
        }
        int[] last = {17, 2, 1, 9};
        for (int what = 0; what < 4; what++) {
            Check.due("the last one, what " + what, x.element(0, 17, what), last[what]);
        }
        Doc.promise(11, "-2.");
        Check.due("18", x.element(0, 18, 0), -2);
        Check.due("-1", x.element(0, -1, 0), -2);
        Check.due("what 4", x.element(0, 17, 4), -2);
        Check.due("what -1", x.element(0, 0, -1), -2);
        Check.due("slot 2", x.element(2, 0, 0), -2);
        Check.due("slot -1", x.element(-1, 0, 0), -2);
        Check.due("1 of slot 1", x.element(1, 1, 0), -2);
    }

    private static void classOf() {
        Doc.promise(12, "CLASS of an ELEMENT (bits).");
        StepNets x = told("perms 12340,13024;");
        Check.due("0", x.classOf(0, 0), 1);
        int whole = 0;
        for (int i = 0; i < 20; i++) {
            Check.due(i + " is in its class", x.classOf(0, i) >> i & 1, 1);
            Check.due("class of " + i, Integer.bitCount(x.classOf(0, i)), i == 0 ? 1 : x.element(0, i, 1) == 5 ? 4 : 5);
            whole |= x.classOf(0, i);
        }
        Check.due("all together", whole, ALL_OF_TWENTY);
        Check.due("the last of c 20", told("group c 20;").classOf(0, 19), 1 << 19);
        Doc.promise(12, "-2.");
        Check.due("20", x.classOf(0, 20), -2);
        Check.due("-1", x.classOf(0, -1), -2);
        Check.due("slot 2", x.classOf(2, 0), -2);
        Check.due("slot -1", x.classOf(-1, 0), -2);
        Check.due("1 of slot 1", x.classOf(1, 1), -2);
    }

    private static void generated() {
        Doc.promise(13, "SUBGROUP of a set (bits).");
        StepNets x = told("group d 10;");
        Check.due("none", x.generated(0, 0), 1);
        Check.due("0", x.generated(0, 1), 1);
        Check.due("the last one", x.generated(0, 1 << 19), 1 << 19 | 1);
        Check.due("0 and the last one", x.generated(0, 1 << 19 | 1), 1 << 19 | 1);
        Check.due("turns", x.generated(0, 2), 1023);
        Check.due("two flips", x.generated(0, 3 << 18), ALL_OF_TWENTY);
        Check.due("all", x.generated(0, ALL_OF_TWENTY), ALL_OF_TWENTY);
        Check.due("0 alone", new StepNets().generated(0, 1), 1);
        Doc.promise(13, "-2; -3: the bits.");
        Check.due("bit 20", x.generated(0, 1 << 20), -3);
        Check.due("bit 31", x.generated(0, LEAST), -3);
        Check.due("bit 31 and all", x.generated(0, LEAST | ALL_OF_TWENTY), -3);
        Check.due("bit 1 of 0 alone", x.generated(1, 2), -3);
        Check.due("slot 2", x.generated(2, 1), -2);
        Check.due("slot 2, bits", x.generated(2, 1 << 20), -2);
        Check.due("slot -1, bits", x.generated(-1, -1), -2);
    }

    private static void subgroup() {
        Doc.promise(14, "SUBGROUP k (bits).");
        StepNets x = told("group d 10;");
        Check.due("the first", x.subgroup(0, 0), 1);
        Check.due("0 5", x.subgroup(0, 1), 1 << 5 | 1);
        Check.due("the last of 22", x.subgroup(0, 21), ALL_OF_TWENTY);
        Check.due("0 alone", new StepNets().subgroup(1, 0), 1);
        Doc.promise(14, "NONE: not so many; -2; -3: k is below 0.");
        Check.due("no 23rd", x.subgroup(0, 22), -1);
        Check.due("k most", x.subgroup(0, MOST), -1);
        Check.due("k -1", x.subgroup(0, -1), -3);
        Check.due("k least", x.subgroup(0, LEAST), -3);
        Check.due("slot 2", x.subgroup(2, 0), -2);
        Check.due("slot 2, k", x.subgroup(2, -1), -2);
        Check.due("slot -1, k most", x.subgroup(-1, MOST), -2);
        Check.due("no second of 0 alone", x.subgroup(1, 1), -1);
        StepNets many = told("group c 2 x c 2 x c 2 x c 2;");
        Check.due("the 67th", many.subgroup(0, 66), 65535);
        Check.due("no 68th", many.subgroup(0, 67), -1);
    }

    private static void kind() {
        Doc.promise(15, "Whether a set is a NORMAL SUBGROUP: 2, a SUBGROUP: 1, else 0.");
        StepNets x = told("group d 10;");
        Check.due("none", x.kind(0, 0), 0);
        Check.due("0", x.kind(0, 1), 2);
        Check.due("all", x.kind(0, ALL_OF_TWENTY), 2);
        Check.due("all but 0", x.kind(0, ALL_OF_TWENTY - 1), 0);
        Check.due("all but the last", x.kind(0, ALL_OF_TWENTY >> 1), 0);
        Check.due("0 and the last", x.kind(0, 1 << 19 | 1), 1);
        Check.due("turns", x.kind(0, 1023), 2);
        Check.due("every other turn and flip", x.kind(0, 0b01010101010101010101), 2);
        Check.due("0 alone", new StepNets().kind(0, 1), 2);
        Check.due("none of 0 alone", new StepNets().kind(0, 0), 0);
        Doc.promise(15, "-2; -3: the bits.");
        Check.due("bit 20", x.kind(0, 1 << 20), -3);
        Check.due("bit 20 and 0", x.kind(0, 1 << 20 | 1), -3);
        Check.due("bit 31", x.kind(0, LEAST), -3);
        Check.due("all bits", x.kind(0, -1), -3);
        Check.due("bit 1 of 0 alone", x.kind(1, 2), -3);
        Check.due("slot 2", x.kind(2, 1), -2);
        Check.due("slot 2, bits", x.kind(2, -1), -2);
    }

    private static void maps() {
        Doc.promise(16, "How many GROUP MAPS of a GROUP on itself there are.");
        Check.due("0 alone", new StepNets().maps(0), 1);
        Check.due("c 2", told("group c 2;").maps(0), 1);
        Check.due("c 3", told("group c 3;").maps(0), 2);
        Check.due("c 20", told("group c 20;").maps(0), 8);
        Check.due("d 10", told("group d 10;").maps(0), 40);
        Check.due("d 2", told("group d 2;").maps(0), 6);
        Check.due("q 5", told("group q 5;").maps(0), 40);
        Check.due("steps are nothing to it", told("group c 20;steps 1;").maps(0), 8);
        Check.due("the most", told("group c 2 x c 2 x c 2 x c 2;").maps(0), 20160);
        Check.due("of 20 rows", told("perms 12340,13024;").maps(0), 20);
        Doc.promise(16, "-2.");
        Check.due("slot 2", new StepNets().maps(2), -2);
        Check.due("slot -1", new StepNets().maps(-1), -2);
    }

    private static void mapped() {
        Doc.promise(17, "On which ELEMENT of SLOT 1 the first GROUP MAP of SLOT 0 on SLOT 1 leads x.");
        Check.due("0 alone", new StepNets().mapped(0), 0);
        StepNets x = Check.told("group c 20;", "group c 5 x c 4;");
        Check.due("0", x.mapped(0), 0);
        Check.due("1 on the least of period 20", x.mapped(1), 6);
        Check.due("the last one", x.mapped(19), 19);
        StepNets d = Check.told("group d 10;", "group c 2 x d 5;");
        Check.due("all twenty", d.mapped(d.product(0, 19, 1)), d.product(1, d.mapped(19), d.mapped(1)));
        Doc.promise(17, "NONE: there is none; -2: x.");
        Check.due("20", x.mapped(20), -2);
        Check.due("-1", x.mapped(-1), -2);
        Check.due("least", x.mapped(LEAST), -2);
        StepNets none = Check.told("group d 10;", "group q 5;");
        Check.due("none, of 0", none.mapped(0), -1);
        Check.due("none, of the last", none.mapped(19), -1);
        Check.due("none, of 20", none.mapped(20), -2);
        StepNets less = Check.told("group c 3;", "group c 4;");
        Check.due("slot 1 has more", less.mapped(2), -1);
        Check.due("3 is of slot 1 alone", less.mapped(3), -2);
        StepNets more = Check.told("group c 4;", "group c 3;");
        Check.due("slot 1 has less", more.mapped(3), -1);
        Check.due("0, too", more.mapped(0), -1);
    }

    private static void far() {
        Doc.promise(18, "FAR from one POINT to another one.");
        Check.due("0 alone", new StepNets().far(0, 0, 0), 0);
        StepNets x = told("group c 20;steps 1;");
        Check.due("from first to last", x.far(0, 0, 19), 19);
        Check.due("from last to first", x.far(0, 19, 0), 1);
        Check.due("from last to last", x.far(0, 19, 19), 0);
        Doc.promise(18, "NONE: there is no way; -2.");
        Check.due("no way without steps", told("group c 20;").far(0, 0, 19), -1);
        Check.due("to itself there is one", told("group c 20;").far(0, 19, 19), 0);
        Check.due("no way to another part", told("group c 20;steps 2 18;").far(0, 0, 19), -1);
        Check.due("g 20", x.far(0, 20, 0), -2);
        Check.due("h 20", x.far(0, 0, 20), -2);
        Check.due("g -1", x.far(0, -1, 0), -2);
        Check.due("h -1", x.far(0, 0, -1), -2);
        Check.due("20 to itself", x.far(0, 20, 20), -2);
        Check.due("slot 2", x.far(2, 0, 0), -2);
        Check.due("1 of slot 1", x.far(1, 0, 1), -2);
    }

    private static void sphere() {
        Doc.promise(19, "How many POINTS SPHERE k has; k NONE: the greatest k of which one has some.");
        Check.due("0 alone, 0", new StepNets().sphere(0, 0), 1);
        Check.due("0 alone, 1", new StepNets().sphere(0, 1), 0);
        Check.due("0 alone, the greatest", new StepNets().sphere(0, -1), 0);
        StepNets x = told("group c 20;steps 1;");
        Check.due("19", x.sphere(0, 19), 1);
        Check.due("20", x.sphere(0, 20), 0);
        Check.due("most", x.sphere(0, MOST), 0);
        Check.due("the greatest", x.sphere(0, StepNets.NONE), 19);
        StepNets none = told("group c 20;");
        Check.due("no steps: the greatest", none.sphere(0, -1), 0);
        Check.due("those that can't be come to are in none", none.sphere(0, 0), 1);
        StepNets all = told("group c 20;" + ALL_STEPS);
        Check.due("all at once", all.sphere(0, 1), 19);
        Check.due("all at once: the greatest", all.sphere(0, -1), 1);
        Doc.promise(19, "-2; -3: k is below NONE.");
        Check.due("k -2", x.sphere(0, -2), -3);
        Check.due("k least", x.sphere(0, LEAST), -3);
        Check.due("slot 2", x.sphere(2, 0), -2);
        Check.due("slot 2, the greatest", x.sphere(2, -1), -2);
        Check.due("slot 2, k -2", x.sphere(2, -2), -2);
        Check.due("slot -1, k -2", x.sphere(-1, -2), -2);
    }

    private static void way() {
        Doc.promise(20, "STEP i of WAY to a POINT.");
        StepNets x = told("group c 20;steps 1;");
        Check.due("first step to the last", x.way(0, 19, 0), 1);
        Check.due("last step to the last", x.way(0, 19, 18), 1);
        Check.due("to a step", told("group c 20;steps 19;").way(0, 19, 0), 19);
        Doc.promise(20, "NONE: not so many, there is none; -2; -3: i is below 0.");
        Check.due("not so many", x.way(0, 19, 19), -1);
        Check.due("most", x.way(0, 19, MOST), -1);
        Check.due("none to 0", x.way(0, 0, 0), -1);
        Check.due("none to another part", told("group c 20;steps 2;").way(0, 19, 0), -1);
        Check.due("none without steps", told("group c 20;").way(0, 19, 0), -1);
        Check.due("i -1", x.way(0, 19, -1), -3);
        Check.due("i least", x.way(0, 19, LEAST), -3);
        Check.due("i -1 to 0", x.way(0, 0, -1), -3);
        Check.due("h 20", x.way(0, 20, 0), -2);
        Check.due("h -1", x.way(0, -1, 0), -2);
        Check.due("h 20, i -1", x.way(0, 20, -1), -2);
        Check.due("slot 2", x.way(2, 0, 0), -2);
        Check.due("slot 2, i -1", x.way(2, 0, -1), -2);
    }

    private static void ring() {
        Doc.promise(21, "How many ARCS the shortest RING has.");
        Check.due("three, the least", told("group c 3;steps 1;").ring(0), 3);
        Check.due("twenty, the most", told("group c 20;steps 1;").ring(0), 20);
        Check.due("twenty, the most", told("group c 20;steps 19;").ring(0), 20);
        Check.due("all steps", told("group c 20;" + ALL_STEPS).ring(0), 3);
        Check.due("the shorter one of two", told("group c 20;steps 4 5;").ring(0), 4);
        Check.due("by the last step", told("group c 20;steps 1 16;").ring(0), 5);
        Doc.promise(21, "NONE: there is none; -2.");
        Check.due("0 alone", new StepNets().ring(0), -1);
        Check.due("two points", told("group c 2;steps 1;").ring(0), -1);
        Check.due("no steps", told("group c 20;").ring(0), -1);
        Check.due("pairs", told("group d 10;steps 15;").ring(0), -1);
        Check.due("slot 2", new StepNets().ring(2), -2);
        Check.due("slot -1", new StepNets().ring(-1), -2);
    }

    private static void parts() {
        Doc.promise(22, "How many PARTS there are.");
        Check.due("0 alone", new StepNets().parts(0), 1);
        Check.due("twenty, the most", told("group c 20;").parts(0), 20);
        Check.due("one, the least", told("group c 20;steps 1;").parts(0), 1);
        Check.due("one, by all", told("group c 20;" + ALL_STEPS).parts(0), 1);
        Check.due("ten", told("group c 20;steps 10;").parts(0), 10);
        Check.due("two by the last turn", told("group d 10;steps 9;").parts(0), 2);
        Doc.promise(22, "-2.");
        Check.due("slot 2", new StepNets().parts(2), -2);
        Check.due("slot -1", new StepNets().parts(-1), -2);
    }

    private static void symmetries() {
        Doc.promise(23, "How many SYMMETRIES there are.");
        Check.due("0 alone, the least", new StepNets().symmetries(0), 1);
        Check.due("no steps, the most", told("group q 5;").symmetries(0), 2432902008176640000L);
        Check.due("all steps, the most", told("group c 20;" + ALL_STEPS).symmetries(0), 2432902008176640000L);
        Check.due("all but one step: pairs", told("group c 20;steps 1 2 3 4 5 6 7 8 9 11 12 13 14 15 16 17 18 19;")
            .symmetries(0), 3715891200L);
        Check.due("two halves", told("group c 20;steps 1 3 5 7 9 11 13 15 17 19;").symmetries(0), 26336378880000L);
        Check.due("two wholes", told("group c 20;steps 2 4 6 8 10 12 14 16 18;").symmetries(0), 26336378880000L);
        Check.due("one way round", told("group c 20;steps 19;").symmetries(0), 20);
        Doc.promise(23, "-2.");
        Check.due("slot 2", new StepNets().symmetries(2), -2L);
        Check.due("slot -1", new StepNets().symmetries(-1), -2L);
    }

    private static void alikeTo() {
        Doc.promise(24, "POINTS (bits) ALIKE to x.");
        Check.due("0 alone", new StepNets().alikeTo(0, 0), 1);
        StepNets all = told("group c 20;" + ALL_STEPS);
        Check.due("0", all.alikeTo(0, 0), 1);
        Check.due("all but 0", all.alikeTo(0, 19), ALL_OF_TWENTY - 1);
        StepNets pairs = told("group c 20;steps 10;");
        Check.due("its pair", pairs.alikeTo(0, 10), 1 << 10);
        Check.due("all others", pairs.alikeTo(0, 19), ALL_OF_TWENTY - 1 - (1 << 10));
        Doc.promise(24, "-2.");
        Check.due("20", all.alikeTo(0, 20), -2);
        Check.due("-1", all.alikeTo(0, -1), -2);
        Check.due("slot 2", all.alikeTo(2, 0), -2);
        Check.due("1 of slot 1", all.alikeTo(1, 1), -2);
    }

    private static void regulars(String text, int arcs, int far, int normal, int own) {
        StepNets x = Check.told("", text);
        Check.due("all arcs alike: " + text, x.regular(1, 0), arcs);
        Check.due("all far alike: " + text, x.regular(1, 1), far);
        Check.due("normal: " + text, x.regular(1, 2), normal);
        Check.due("own: " + text, x.regular(1, 3), own);
    }

    private static void regular() {
        Doc.promise(25, "What 0 1 if ALL ARCS are ALIKE, 1 1 if ALL FAR are, 2 1 if it is a NORMAL NETWORK (else 0 each), "
            + "3 how many are OWN.");
        regulars("", 0, 1, 1, 1);
        regulars("group c 2;", 0, 1, 1, 1);
        regulars("group c 2;steps 1;", 1, 1, 1, 1);
        regulars("group c 3;steps 1 2;", 1, 1, 1, 2);
        regulars("group c 20;", 0, 1, 0, 8);
        regulars("group c 20;" + ALL_STEPS, 1, 1, 0, 8);
        regulars("group c 20;steps 1;", 1, 1, 1, 1);
        regulars("group c 20;steps 1 19 10;", 0, 0, 1, 2);
        regulars("group c 2 x c 2 x c 2 x c 2;", 0, 1, 0, 20160);
        regulars("group c 2 x c 2 x c 2 x c 2;steps 1 2 4 8;", 1, 1, 1, 24);
        Doc.promise(25, "-2.");
        StepNets x = new StepNets();
        Check.due("what 4", x.regular(0, 4), -2);
        Check.due("what -1", x.regular(0, -1), -2);
        Check.due("slot 2", x.regular(2, 3), -2);
        Check.due("slot -1", x.regular(-1, 0), -2);
    }

    private static void alike() {
        Doc.promise(26, "On which POINT of SLOT 1 the first NETWORK MAP of SLOT 0 on SLOT 1 leads x.");
        Check.due("0 alone", new StepNets().alike(0), 0);
        StepNets none = Check.told("group c 20;", "group d 10;");
        StepNets all = Check.told("group c 20;" + ALL_STEPS, "group q 5;" + ALL_STEPS);
        for (int i = 0; i < 20; i++) {
            Check.due("no steps: " + i, none.alike(i), i);
            Check.due("all steps: " + i, all.alike(i), i);
        }
        StepNets ring = Check.told("group c 20;steps 1 19;", "group d 10;steps 10 11;");
        Check.due("1", ring.alike(1), 10);
        Check.due("2: back by 11", ring.alike(2), 9);
        Check.due("19", ring.alike(19), 11);
        Doc.promise(26, "NONE: there is none; -2: x.");
        Check.due("20", none.alike(20), -2);
        Check.due("-1", none.alike(-1), -2);
        none.step(0, 1);
        Check.due("one step, none", none.alike(0), -1);
        none.step(1, 10);
        Check.due("one step each, none", none.alike(19), -1);
        Check.due("20, none", none.alike(20), -2);
        StepNets unlike = Check.told("group c 19;", "group c 20;");
        Check.due("unlike size", unlike.alike(0), -1);
        Check.due("unlike size, the last", unlike.alike(18), -1);
        Check.due("19 is of slot 1 alone", unlike.alike(19), -2);
    }

    private static int other(String from, String to) {
        return Check.told(from, to).other();
    }

    private static void other() {
        Doc.promise(27, "The least set (bits) of ELEMENTS of SLOT 1, but 0, that, as its STEPS, would make a NETWORK "
            + "on which there is a NETWORK MAP of that of SLOT 0.");
        Check.due("0 alone", new StepNets().other(), 0);
        Check.due("no steps", other("group c 20;", "group d 10;steps 1;"), 0);
        Check.due("one: the first that can be", other("group c 2;steps 1;", "group c 2;"), 2);
        Check.due("one: the only one", other("group c 20;steps 10;", "group c 20;"), 1 << 10);
        Check.due("one: the least", other("group c 20;steps 19;", "group c 20;"), 2);
        Check.due("two: two flips", other("group c 20;steps 1 19;", "group d 10;"), 3 << 10);
        Check.due("four: the least of all", other("group c 20;steps 1 2 3 4;", "group c 20;"), 30);
        Check.due("four: all there are", other("group c 5;steps 1 2 3 4;", "group c 5;"), 30);
        Check.due("a ring of 4 four times: two steps", other("group c 16;steps 4 12;", "group c 4 x c 4;"), 10);
        StepNets x = Check.told("group c 4;steps 1 3;", "group c 2 x c 2;steps 3;");
        Check.due("whatever its steps are", x.other(), 6);
        Check.due("which stay", x.element(1, 3, 2), 1);
        Doc.promise(27, "NONE: there is none; -5: GROUPS of unlike size; -4: SLOT 0 has more than 4 STEPS.");
        Check.due("none of one", other("group c 20;steps 1;", "group d 10;"), -1);
        Check.due("none of four, all looked through", other("group c 20;steps 1 2 3 4;", "group d 10;"), -1);
        Check.due("unlike size", other("group c 19;steps 1;", "group c 20;"), -5);
        Check.due("unlike size", other("group c 2;", ""), -5);
        Check.due("four steps", other("group c 6;steps 1 2 3 4;", "group c 6;"), 30);
        Check.due("five steps", other("group c 6;steps 1 2 3 4 5;", "group c 6;"), -4);
        Check.due("nineteen", other("group c 20;" + ALL_STEPS, "group c 20;"), -4);
        Check.due("five of slot 1 are none of it", other("group c 6;steps 1;", "group c 6;steps 1 2 3 4 5;"), 2);
        Check.due("both: unlike size is told first", other("group c 6;steps 1 2 3 4 5;", "group c 7;"), -5);
    }

    private static void name() {
        Doc.promise(28, "Byte i of the name of an ELEMENT: of group the numbers of the FACTORS' ELEMENTS with a comma between "
            + "(at first as of c 1); of perms its row of images; of a QUOTIENT that of the least one in it, as it was named, "
            + "and a prime (') behind.");
        named(new StepNets(), 0, "0");
        named(told("group c 1;"), 0, "0");
        named(told("group c 20;"), 9, "9");
        named(told("group c 20;"), 10, "10");
        named(told("group c 20;"), 19, "19");
        named(told("group d 10;"), 19, "19");
        named(told("group a;"), 11, "11");
        named(told("group c 1 x c 20 x c 1;"), 19, "0,19,0");
        named(told("group c 4 x c 5;"), 19, "3,4");
        named(told("group c 2 x c 2 x c 2 x c 2;"), 15, "1,1,1,1");
        named(told("group c1" + "x c1".repeat(72) + ";"), 0, "0" + ",0".repeat(72));
        named(told("perms 10;"), 0, "01");
        named(told("perms 10;"), 1, "10");
        named(told("perms 12345670;"), 7, "70123456");
        StepNets x = told("group c 20;");
        x.quotient(0, 1);
        named(x, 19, "19'");
        x.quotient(0, 1 << 10 | 1);
        named(x, 9, "9''");
        x.quotient(0, 1023);
        named(x, 0, "0'''");
        StepNets d = told("group d 4 x c 2;");
        d.quotient(0, 0b101);
        named(d, 7, "5,1'");
        d.quotient(0, 0b10001);
        named(d, 3, "5,0''");
        StepNets p = told("perms 1230;");
        p.quotient(0, 0b0101);
        named(p, 1, "1230'");
        StepNets first = new StepNets();
        first.quotient(0, 1);
        named(first, 0, "0'");
        nameRefused();
    }

    private static void named(StepNets x, int element, String name) {
        Check.holds("name of " + element + " is " + name, Check.nameOf(x, 0, element).equals(name));
        Check.due("the last byte of " + name, x.name(0, element, name.length() - 1), name.charAt(name.length() - 1));
        Check.due("none behind " + name, x.name(0, element, name.length()), -1);
    }

    private static void nameRefused() {
        Doc.promise(28, "NONE: not so many; -2; -3: i is below 0.");
        StepNets x = told("group c 20;");
        Check.due("one byte", x.name(0, 9, 0), '9');
        Check.due("no second", x.name(0, 9, 1), -1);
        Check.due("a second", x.name(0, 10, 1), '0');
        Check.due("no third", x.name(0, 10, 2), -1);
        Check.due("most", x.name(0, 10, MOST), -1);
        Check.due("i -1", x.name(0, 0, -1), -3);
        Check.due("i least", x.name(0, 0, LEAST), -3);
        Check.due("20", x.name(0, 20, 0), -2);
        Check.due("-1", x.name(0, -1, 0), -2);
        Check.due("20, i -1", x.name(0, 20, -1), -2);
        Check.due("slot 2", x.name(2, 0, 0), -2);
        Check.due("slot 2, i -1", x.name(2, 0, -1), -2);
        Check.due("1 of slot 1", x.name(1, 1, 0), -2);
        Check.tell(x, 0, "perms 10;");
        Check.due("most of rows", x.name(0, 1, MOST), -1);
        x.quotient(0, 1);
        Check.due("the prime", x.name(0, 1, 2), 39);
        Check.due("none behind it", x.name(0, 1, 3), -1);
        Check.due("most of a quotient", x.name(0, 1, MOST), -1);
    }

    private static void count() {
        Doc.promise(29, "0 ACTS that can be UNDONE, 1 bytes on THE TAPE.");
        StepNets x = new StepNets();
        Check.due("no acts", x.count(0), 0);
        Check.due("no bytes", x.count(1), 0);
        for (int i = 1; i <= 10; i++) {
            x.both(0);
            Check.due("after act " + i, x.count(0), Math.min(i, 8));
        }
        x.undo();
        Check.due("one less", x.count(0), 7);
        for (int i = 1; i <= 16; i++) {
            x.feed(0, 0, 0, 0, 0);
            Check.due("after feed " + i, x.count(1), Math.min(20 * i, 300));
        }
        x.tell(0, 301);
        Check.due("refused", x.count(1), 300);
        x.tell(0, 1);
        Check.due("at fault", x.count(1), 0);
        Check.due("acts stay with a fault", x.count(0), 7);
        x.feed(0, 0, 0, 0, 0);
        x.tell(0, 0);
        Check.due("taken", x.count(1), 0);
        Check.due("no acts then", x.count(0), 0);
        Doc.promise(29, "NONE for others.");
        for (int what : new int[] {LEAST, -2, -1, 2, 3, MOST}) {
            Check.due("what " + what, x.count(what), -1);
        }
    }
}
