/** Boundary cases of parts ==== 2. and ==== 3. of the document's terms: groups, networks, symmetries. */
final class BoundaryOfGroups {
    private static final String TERMS = "Terms";

    private BoundaryOfGroups() {
    }

    static void run() {
        inverse();
        period();
        classes();
        centre();
        subgroupOfASet();
        normalSubgroup();
        subgroupsInOrder();
        derived();
        groupMaps();
        arcs();
        far();
        sphere();
        way();
        ring();
        parts();
        symmetries();
        alike();
        allArcsAlike();
        allFarAlike();
        own();
        normalNetwork();
        networkMaps();
        quotient();
    }

    private static StepNets told(String text) {
        return Check.told(text, "");
    }

    private static void inverse() {
        Doc.sentence(TERMS, "INVERSE of x: what times x is 0.");
        Check.due("of 0 alone", new StepNets().element(0, 0, 0), 0);
        StepNets c = told("group c 20;");
        Check.due("of 0", c.element(0, 0, 0), 0);
        Check.due("of 1", c.element(0, 1, 0), 19);
        Check.due("of the middle one", c.element(0, 10, 0), 10);
        Check.due("of the last one", c.element(0, 19, 0), 1);
        StepNets q = told("group q 5;");
        Check.due("of the first flip", q.element(0, 10, 0), 15);
        Check.due("of the last flip", q.element(0, 19, 0), 14);
        Check.due("a flip of d 10", told("group d 10;").element(0, 19, 0), 19);
        StepNets p = told("perms 120,021;");
        for (int i = 0; i < 6; i++) {
            Check.due("inverse of " + i + " times it", p.product(0, p.element(0, i, 0), i), 0);
        }
    }

    private static void period() {
        Doc.sentence(TERMS, "PERIOD: the least e above 0 for which x, e times over, is 0.");
        Check.due("of 0 alone", new StepNets().element(0, 0, 1), 1);
        StepNets c = told("group c 20;");
        int[] periods = {1, 20, 10, 20, 5, 4, 10, 20, 5, 20, 2, 20, 5, 20, 10, 4, 5, 20, 10, 20};
        for (int i = 0; i < 20; i++) {
            Check.due("of " + i + " in c 20", c.element(0, i, 1), periods[i]);
        }
        Check.due("1 of c 2", told("group c 2;").element(0, 1, 1), 2);
        Check.due("18 of c 19", told("group c 19;").element(0, 18, 1), 19);
        Check.due("a flip of q 5", told("group q 5;").element(0, 19, 1), 4);
    }

    private static void classes() {
        Doc.sentence(TERMS, "CLASS of x: all INVERSE of g times x times g.");
        Check.due("of 0 alone", new StepNets().classOf(0, 0), 1);
        StepNets c = told("group c 20;");
        Check.due("of 0", c.classOf(0, 0), 1);
        Check.due("of the last one, where all commutes", c.classOf(0, 19), 1 << 19);
        StepNets d = told("group d 9;");
        Check.due("of 0 in d 9", d.classOf(0, 0), 1);
        Check.due("of the last turn", d.classOf(0, 8), 1 << 8 | 1 << 1);
        Check.due("all flips", d.classOf(0, 17), 511 << 9);
        Check.due("nine of them", d.element(0, 9, 3), 9);
        StepNets e = told("group d 10;");
        Check.due("every other flip", e.classOf(0, 19), 0b10101010100000000000);
        Check.due("half round is alone", e.classOf(0, 5), 1 << 5);
    }

    private static void centre() {
        Doc.sentence(TERMS, "CENTRE: ELEMENTS that are a CLASS by themselves.");
        Check.due("0 alone", new StepNets().size(0, 2), 1);
        Check.due("all", told("group c 20;").size(0, 2), 20);
        Check.due("no more than 0", told("group d 9;").size(0, 2), 1);
        Check.due("two", told("group d 10;").size(0, 2), 2);
        Check.due("d 2: all", told("group d 2;").size(0, 2), 4);
        Check.due("d 1: all", told("group d 1;").size(0, 2), 2);
        Check.due("of a product", told("group c 3 x d 3;").size(0, 2), 3);
    }

    private static void subgroupOfASet() {
        Doc.sentence(TERMS, "SUBGROUP of a set: all products of these (0, too).");
        StepNets x = told("group c 20;");
        Check.due("of none", x.generated(0, 0), 1);
        Check.due("of 0", x.generated(0, 1), 1);
        Check.due("of 1", x.generated(0, 2), (1 << 20) - 1);
        Check.due("of the last one", x.generated(0, 1 << 19), (1 << 20) - 1);
        Check.due("of the middle one", x.generated(0, 1 << 10), 1 << 10 | 1);
        Check.due("of 4 and 10", x.generated(0, 1 << 4 | 1 << 10), 0b01010101010101010101);
        Check.due("of all", x.generated(0, (1 << 20) - 1), (1 << 20) - 1);
        Check.due("of four that make 16", told("group c 2 x c 2 x c 2 x c 2;").generated(0, 0x116), 65535);
    }

    private static void normalSubgroup() {
        Doc.sentence(TERMS, "NORMAL SUBGROUP: one that is made of whole CLASSES.");
        StepNets x = told("group d 3;");
        Check.due("0 alone", x.kind(0, 1), 2);
        Check.due("all", x.kind(0, 63), 2);
        Check.due("turns", x.kind(0, 7), 2);
        Check.due("one flip of three", x.kind(0, 0b001001), 1);
        Check.due("the last flip", x.kind(0, 0b100001), 1);
        Check.due("whole classes that are no subgroup", x.kind(0, 0b111001), 0);
        Check.due("a whole class without 0", x.kind(0, 0b000110), 0);
        Check.due("none", x.kind(0, 0), 0);
    }

    private static void subgroupsInOrder() {
        Doc.sentence(TERMS, "SUBGROUPS, by their bits rising.");
        subgroups("", 1);
        subgroups("group c 2;", 1, 3);
        subgroups("group c 19;", 1, (1 << 19) - 1);
        subgroups("group c 6;", 1, 0b001001, 0b010101, 0b111111);
        subgroups("group d 2;", 1, 3, 5, 9, 15);
        subgroups("group d 3;", 1, 7, 9, 17, 33, 63);
        subgroups("group c 20;", 1, 1 << 10 | 1, 0b1000010000100001, 0b10001000100010001, 0b01010101010101010101, 1048575);
        StepNets x = told("group c 2 x c 2 x c 2 x c 2;");
        for (int k = 1; k < 67; k++) {
            Check.holds("rises at " + k, x.subgroup(0, k) > x.subgroup(0, k - 1));
        }
        Check.due("the last of 67", x.subgroup(0, 66), 65535);
        Check.due("no 68th", x.subgroup(0, 67), -1);
    }

    private static void subgroups(String text, int... sets) {
        StepNets x = told(text);
        Check.due(text + " has so many", x.size(0, 4), sets.length);
        for (int k = 0; k < sets.length; k++) {
            Check.due(text + " subgroup " + k, x.subgroup(0, k), sets[k]);
        }
        Check.due(text + " no more", x.subgroup(0, sets.length), -1);
    }

    private static void derived() {
        Doc.sentence(TERMS, "DERIVED: the SUBGROUP of all INVERSE of x times INVERSE of y times x times y.");
        Check.due("of 0 alone", new StepNets().size(0, 5), 1);
        Check.due("where all commutes", told("group c 20;").size(0, 5), 1);
        Check.due("d 9: all turns", told("group d 9;").size(0, 5), 9);
        Check.due("d 10: every other turn", told("group d 10;").size(0, 5), 5);
        Check.due("q 2", told("group q 2;").size(0, 5), 2);
        Check.due("q 5", told("group q 5;").size(0, 5), 5);
        Check.due("a", told("group a;").size(0, 5), 4);
        Check.due("d 2", told("group d 2;").size(0, 5), 1);
    }

    private static void row(String from, String to, int... images) {
        StepNets x = Check.told(from, to);
        for (int i = 0; i < images.length; i++) {
            Check.due(from + " on " + to + ": " + i, x.mapped(i), images[i]);
        }
        Check.due(from + " has no more", x.mapped(images.length), -2);
    }

    private static void groupMaps() {
        Doc.sentence(TERMS, "GROUP MAPS of one GROUP on another one: one to one, products on products. "
            + "As rows of images, of ELEMENT 0 on, the first by numbers.");
        row("", "", 0);
        row("group c 5;", "group c 5;", 0, 1, 2, 3, 4);
        row("group d 1;", "group c 2;", 0, 1);
        row("group c 2 x c 4;", "group c 4 x c 2;", 0, 4, 1, 5, 2, 6, 3, 7);
        row("group c 6;", "group c 3 x c 2;", 0, 4, 2, 3, 1, 5);
        row("group c 6;", "group d 3;", -1, -1, -1, -1, -1, -1);
        row("group c 4;", "group c 2 x c 2;", -1, -1, -1, -1);
        row("group c 3;", "group c 4;", -1, -1, -1);
        row("group c 4;", "group c 3;", -1, -1, -1, -1);
        row("group c 3;", "group c 6;", -1, -1, -1);
        StepNets x = Check.told("group c 20;", "group c 4 x c 5;");
        for (int k = 0; k < 20; k++) {
            Check.due("c 20 on c 4 x c 5: " + k, x.mapped(k), k % 4 + 4 * (k % 5));
        }
        Check.due("of 0 on itself", new StepNets().maps(0), 1);
        Check.due("of c 2", told("group c 2;").maps(0), 1);
        Check.due("most there can be", told("group c 2 x c 2 x c 2 x c 2;").maps(0), 20160);
    }

    private static void arcs() {
        Doc.sentence(TERMS, "NETWORK: POINTS are ELEMENTS; from each g an ARC by each STEP s leads to g times s.");
        StepNets x = told("group d 3;steps 1;");
        Check.due("from 3 to 3 times 1", x.far(0, 3, 5), 1);
        Check.due("not to 1 times 3", x.far(0, 3, 4), 2);
        Check.due("from the last one", x.far(0, 5, 4), 1);
        Check.due("from 2 round to 0", x.far(0, 2, 0), 1);
        Check.due("no arc without steps", new StepNets().far(0, 0, 0), 0);
        Check.due("no arc without steps", told("group c 2;").far(0, 0, 1), -1);
    }

    private static void far() {
        Doc.sentence(TERMS, "FAR from g to h: the fewest ARCS along which one comes from g to h.");
        StepNets x = told("group c 20;steps 1;");
        Check.due("to itself", x.far(0, 7, 7), 0);
        Check.due("as far as can be", x.far(0, 0, 19), 19);
        Check.due("round", x.far(0, 19, 0), 1);
        Check.due("round", x.far(0, 1, 0), 19);
        StepNets all = told("group c 4;steps 1 2 3;");
        Check.due("at once", all.far(0, 3, 1), 1);
        Check.due("itself, though all are steps", all.far(0, 3, 3), 0);
        StepNets y = told("group c 9;steps 1 4;");
        Check.due("4 and 4, not eight times 1", y.far(0, 0, 8), 2);
        Check.due("no way", told("group c 4;steps 2;").far(0, 1, 2), -1);
    }

    private static void sphere() {
        Doc.sentence(TERMS, "SPHERE k: POINTS that are k FAR from 0.");
        StepNets none = told("group c 20;");
        Check.due("0 is 0 far, alone", none.sphere(0, 0), 1);
        Check.due("others can't be come to", none.sphere(0, 1), 0);
        StepNets all = told("group c 4;steps 1 2 3;");
        Check.due("all but 0", all.sphere(0, 1), 3);
        Check.due("none further", all.sphere(0, 2), 0);
        StepNets ring = told("group c 20;steps 1;");
        Check.due("the last one", ring.sphere(0, 19), 1);
        Check.due("none behind it", ring.sphere(0, 20), 0);
    }

    private static void way(String text, int h, int... steps) {
        StepNets x = told(text);
        for (int i = 0; i < steps.length; i++) {
            Check.due(text + " to " + h + ": " + i, x.way(0, h, i), steps[i]);
        }
        Check.due(text + " to " + h + ": no more", x.way(0, h, steps.length), -1);
    }

    private static void way() {
        Doc.sentence(TERMS, "WAY to h: a row of STEPS from 0 to h, as few as can be, of like ones the first by numbers.");
        way("", 0);
        way("group c 5;steps 1 2 3 4;", 0);
        way("group c 5;steps 1 2 3 4;", 4, 4);
        way("group c 5;steps 1;", 4, 1, 1, 1, 1);
        way("group c 5;steps 1 2;", 3, 1, 2);
        way("group c 5;steps 1 2;", 4, 2, 2);
        way("group c 10;steps 3 4;", 7, 3, 4);
        way("group c 6;steps 2;", 1);
        way("group d 3;steps 1 3;", 4, 1, 3);
        way("group d 3;steps 1 3;", 5, 3, 1);
        way("group c 20;steps 1;", 19, 1, 1, 1, 1, 1, 1, 1, 1, 1, 1, 1, 1, 1, 1, 1, 1, 1, 1, 1);
    }

    private static void ring() {
        Doc.sentence(TERMS,
            "RING: a row of 3 ARCS or more that leads back to where it began, coming to no POINT twice but that.");
        Check.due("0 alone", new StepNets().ring(0), -1);
        Check.due("two arcs are none", told("group c 2;steps 1;").ring(0), -1);
        Check.due("two arcs are none", told("group c 20;steps 10;").ring(0), -1);
        Check.due("three are one", told("group c 3;steps 1;").ring(0), 3);
        Check.due("there and back is none", told("group c 4;steps 1 3;").ring(0), 4);
        Check.due("there and back is none", told("group c 5;steps 1 4;").ring(0), 5);
        Check.due("all points", told("group c 20;steps 1;").ring(0), 20);
        Check.due("all points, by two flips", told("group d 10;steps 10 11;").ring(0), 20);
        Check.due("no steps", told("group c 20;").ring(0), -1);
        Check.due("three of four", told("group c 4;steps 1 2 3;").ring(0), 3);
        Check.due("one by turns and there and back", told("group c 4;steps 1 2;").ring(0), 3);
        Check.due("in a part", told("group c 20;steps 5;").ring(0), 4);
    }

    private static void parts() {
        Doc.sentence(TERMS, "PARTS: POINTS from which one comes to each other along ARCS taken either way.");
        Check.due("0 alone", new StepNets().parts(0), 1);
        Check.due("each by itself", told("group c 20;").parts(0), 20);
        Check.due("all, one way", told("group c 20;steps 1;").parts(0), 1);
        Check.due("all, at once", told("group c 3;steps 1 2;").parts(0), 1);
        Check.due("two", told("group c 20;steps 2;").parts(0), 2);
        Check.due("pairs", told("group d 10;steps 19;").parts(0), 10);
        Check.due("two together make all", told("group c 20;steps 4 5;").parts(0), 1);
    }

    private static void symmetries() {
        Doc.sentence(TERMS, "SYMMETRIES of a NETWORK: POINTS on POINTS, one to one, ARCS on ARCS (whatever the STEP).");
        Check.due("0 alone", new StepNets().symmetries(0), 1);
        Check.due("no arcs: all orders", told("group c 20;").symmetries(0), 2432902008176640000L);
        Check.due("no arcs: all orders", told("group c 4;").symmetries(0), 24);
        Check.due("all arcs: all orders", told("group c 4;steps 1 2 3;").symmetries(0), 24);
        Check.due("one way round", told("group c 20;steps 1;").symmetries(0), 20);
        Check.due("either way: one step on the other", told("group c 20;steps 1 19;").symmetries(0), 40);
        Check.due("a flip's arcs on a turn's", told("group d 2;steps 1 2;").symmetries(0), 8);
        Check.due("pairs", told("group c 20;steps 10;").symmetries(0), 3715891200L);
    }

    private static void alike() {
        Doc.sentence(TERMS, "ALIKE to x: POINTS on which some SYMMETRY that has 0 stay leads x.");
        Check.due("0 alone", new StepNets().alikeTo(0, 0), 1);
        StepNets none = told("group c 20;");
        Check.due("0 stays", none.alikeTo(0, 0), 1);
        Check.due("all others", none.alikeTo(0, 1), (1 << 20) - 2);
        Check.due("all others", none.alikeTo(0, 19), (1 << 20) - 2);
        StepNets one = told("group c 20;steps 1;");
        Check.due("none but itself", one.alikeTo(0, 19), 1 << 19);
        StepNets two = told("group c 20;steps 1 19;");
        Check.due("the other way round", two.alikeTo(0, 19), 1 << 19 | 2);
        Check.due("across", two.alikeTo(0, 10), 1 << 10);
    }

    private static int regular(String text, int what) {
        return told(text).regular(0, what);
    }

    private static void allArcsAlike() {
        Doc.sentence(TERMS, "ALL ARCS ALIKE: there are STEPS, and all are ALIKE to one of them.");
        Check.due("no steps", new StepNets().regular(0, 0), 0);
        Check.due("no steps", regular("group c 20;", 0), 0);
        Check.due("one", regular("group c 20;steps 19;", 0), 1);
        Check.due("two ways", regular("group c 20;steps 1 19;", 0), 1);
        Check.due("all", regular("group c 4;steps 1 2 3;", 0), 1);
        Check.due("two that aren't", regular("group c 5;steps 1 2;", 0), 0);
        Check.due("the last one isn't", regular("group c 20;steps 1 19 10;", 0), 0);
    }

    private static void allFarAlike() {
        Doc.sentence(TERMS, "ALL FAR ALIKE: POINTS as FAR from 0 are ALIKE, each with each "
            + "(those that can't be come to, too, all together).");
        Check.due("0 alone", new StepNets().regular(0, 1), 1);
        Check.due("none can be come to", regular("group c 20;", 1), 1);
        Check.due("one as far each", regular("group c 20;steps 1;", 1), 1);
        Check.due("two as far each", regular("group c 20;steps 1 19;", 1), 1);
        Check.due("other parts all together", regular("group c 20;steps 4;", 1), 1);
        Check.due("pairs", regular("group c 20;steps 10;", 1), 1);
        Check.due("all", regular("group c 4;steps 1 2 3;", 1), 1);
        Check.due("1 far, but not alike", regular("group c 5;steps 1 2;", 1), 0);
        Check.due("two halves", regular("group c 8;steps 1 3 5 7;", 1), 1);
        Check.due("1 far alike", regular("group c 13;steps 1 5 8 12;", 0), 1);
        Check.due("2 far not", regular("group c 13;steps 1 5 8 12;", 1), 0);
    }

    private static void own() {
        Doc.sentence(TERMS, "OWN: SYMMETRIES that have 0 stay and are GROUP MAPS.");
        Check.due("0 alone", new StepNets().regular(0, 3), 1);
        Check.due("no steps: all group maps", regular("group c 20;", 3), 8);
        Check.due("no steps: all group maps", regular("group c 2 x c 2 x c 2 x c 2;", 3), 20160);
        Check.due("all steps: all group maps", regular("group c 4;steps 1 2 3;", 3), 2);
        Check.due("that which changes nothing", regular("group c 20;steps 1;", 3), 1);
        Check.due("two", regular("group c 20;steps 1 19;", 3), 2);
        Check.due("flips", regular("group d 3;steps 3 4 5;", 3), 6);
    }

    private static void normalNetwork() {
        Doc.sentence(TERMS, "NORMAL NETWORK: all SYMMETRIES that have 0 stay are OWN.");
        Check.due("0 alone", new StepNets().regular(0, 2), 1);
        Check.due("c 3 without steps", regular("group c 3;", 2), 1);
        Check.due("d 2 without steps", regular("group d 2;", 2), 1);
        Check.due("c 4 without steps", regular("group c 4;", 2), 0);
        Check.due("c 20 without steps", regular("group c 20;", 2), 0);
        Check.due("one way round", regular("group c 20;steps 1;", 2), 1);
        Check.due("either way round", regular("group c 20;steps 1 19;", 2), 1);
        Check.due("all of c 4", regular("group c 4;steps 1 2 3;", 2), 0);
        Check.due("parts that change places", regular("group c 20;steps 10;", 2), 0);
    }

    private static void points(String from, String to, int... images) {
        StepNets x = Check.told(from, to);
        for (int i = 0; i < images.length; i++) {
            Check.due(from + " on " + to + ": " + i, x.alike(i), images[i]);
        }
    }

    private static void networkMaps() {
        Doc.sentence(TERMS, "NETWORK MAPS of one NETWORK on another one: POINTS on POINTS, one to one, ARCS on ARCS, "
            + "as many of these in both. The first by rows of images.");
        points("", "", 0);
        points("group c 4;", "group c 2 x c 2;", 0, 1, 2, 3);
        points("group c 4;steps 1 2 3;", "group c 2 x c 2;steps 1 2 3;", 0, 1, 2, 3);
        points("group c 4;steps 1 3;", "group c 2 x c 2;steps 2 3;", 0, 2, 1, 3);
        points("group c 4;steps 1 3;", "group c 4;steps 1 2 3;", -1, -1, -1, -1);
        points("group c 4;steps 1 2 3;", "group c 4;steps 1 3;", -1, -1, -1, -1);
        points("group c 4;", "group c 4;steps 1;", -1, -1, -1, -1);
        points("group c 4;steps 1;", "group c 4;steps 2;", -1, -1, -1, -1);
        points("group c 3;", "group c 4;", -1, -1, -1);
        points("group c 4;", "group c 3;", -1, -1, -1, -1);
        points("group c 5;steps 2;", "group c 5;steps 1;", 0, 3, 1, 4, 2);
        points("group c 6;steps 3;", "group d 3;steps 3;", 0, 1, 2, 3, 4, 5);
        points("group c 6;steps 3;", "group d 3;steps 5;", 0, 1, 2, 5, 3, 4);
    }

    private static void quotient() {
        Doc.sentence(TERMS, "QUOTIENT of a GROUP by a NORMAL SUBGROUP: ELEMENTS are sets g times all of it, numbered by the "
            + "least ELEMENT in them; STEPS: those sets that have a STEP in them, but 0.");
        StepNets all = told("group c 20;steps 1 2 19;");
        Check.due("by all", all.quotient(0, (1 << 20) - 1), 1);
        Check.due("0 is no step", all.size(0, 1), 0);
        StepNets none = told("group d 3;steps 1 5;");
        Check.due("by 0 alone", none.quotient(0, 1), 6);
        Check.due("the same steps", none.size(0, 1), 2);
        Check.due("5 is one", none.element(0, 5, 2), 1);
        Check.due("the same products", none.product(0, 3, 1), 5);
        StepNets x = told("group c 12;steps 3 4 7;");
        Check.due("by 0 3 6 9", x.quotient(0, 0b001001001001), 3);
        Check.due("3 is in 0, 4 and 7 are in 1", x.size(0, 1), 1);
        Check.due("1 is the step", x.element(0, 1, 2), 1);
        Check.due("2 goes round", x.product(0, 2, 1), 0);
        StepNets d = told("group d 4;steps 3 7;");
        Check.due("by 0 2", d.quotient(0, 0b101), 4);
        Check.due("least of them: 0 1 4 5", Check.nameOf(d, 0, 2).equals("4'") ? 1 : 0, 1);
        Check.due("3 is in 1", d.element(0, 1, 2), 1);
        Check.due("7 is in 3", d.element(0, 3, 2), 1);
        Check.due("4 is none", d.size(0, 1), 2);
    }
}
