import java.util.function.ToLongFunction;

/** Part ==== 4. of the document's terms: each refused call, its code, that it changes nothing, which code comes first. */
final class BoundaryOfRefusals {
    private static final String TERMS = "Terms";
    private static final int LEAST = Integer.MIN_VALUE;
    private static final int MOST = Integer.MAX_VALUE;
    private static final int[] NO_SLOTS = {LEAST, -2, -1, 2, 3, MOST};
    private static final int[] NO_ELEMENTS_OF_SIX = {LEAST, -2, -1, 6, 7, 20, 31, 32, MOST};
    private static final int[] NO_SETS_OF_SIX = {LEAST, LEAST + 1, -1, 64, 65, 1 << 20, MOST};

    private BoundaryOfRefusals() {
    }

    static void run() {
        Doc.sentence(TERMS, "Refused calls answer by a code and change nothing:");
        noSuchSlot();
        noSuchElement();
        noSuchWhat();
        numbersThatCannotBe();
        tooMany();
        whatCannotBe();
        textsAtFault();
        whichIsToldFirst();
        aheadOfNone();
        none();
    }

    /** An object of six and two elements, with a fault, four acts and twenty bytes on its tape. */
    private static StepNets busy() {
        StepNets x = Check.told("group d 3;steps 1 3;", "group c 4;steps 1;");
        Check.due("a fault", Check.tell(x, 0, "group c 0;"), -32);
        x.step(0, 4);
        x.both(1);
        x.quotient(1, 0b0101);
        x.step(0, 1);
        Check.feed(x, "steps 2;");
        return x;
    }

    private static void refused(String call, ToLongFunction<StepNets> made, long code) {
        StepNets x = busy();
        Check.due(call, made.applyAsLong(x), code);
        Check.holds("nothing changes by " + call, Check.used(x, true).equals(Check.used(busy(), true)));
    }

    private static void noSuchSlot() {
        Doc.sentence(TERMS, "-2 there is none such (SLOT, ELEMENT, what);");
        for (int slot : NO_SLOTS) {
            refused("tell(" + slot + ", 8)", x -> x.tell(slot, 8), -2);
            refused("step(" + slot + ", 1)", x -> x.step(slot, 1), -2);
            refused("both(" + slot + ")", x -> x.both(slot), -2);
            refused("quotient(" + slot + ", 1)", x -> x.quotient(slot, 1), -2);
            refused("size(" + slot + ", 0)", x -> x.size(slot, 0), -2);
            refused("product(" + slot + ", 0, 0)", x -> x.product(slot, 0, 0), -2);
            refused("element(" + slot + ", 0, 0)", x -> x.element(slot, 0, 0), -2);
            refused("classOf(" + slot + ", 0)", x -> x.classOf(slot, 0), -2);
            refused("generated(" + slot + ", 1)", x -> x.generated(slot, 1), -2);
            refused("subgroup(" + slot + ", 0)", x -> x.subgroup(slot, 0), -2);
            refused("kind(" + slot + ", 1)", x -> x.kind(slot, 1), -2);
            refused("maps(" + slot + ")", x -> x.maps(slot), -2);
            refused("far(" + slot + ", 0, 0)", x -> x.far(slot, 0, 0), -2);
            refused("sphere(" + slot + ", 0)", x -> x.sphere(slot, 0), -2);
            refused("way(" + slot + ", 0, 0)", x -> x.way(slot, 0, 0), -2);
            refused("ring(" + slot + ")", x -> x.ring(slot), -2);
            refused("parts(" + slot + ")", x -> x.parts(slot), -2);
            refused("symmetries(" + slot + ")", x -> x.symmetries(slot), -2);
            refused("alikeTo(" + slot + ", 0)", x -> x.alikeTo(slot, 0), -2);
            refused("regular(" + slot + ", 0)", x -> x.regular(slot, 0), -2);
            refused("name(" + slot + ", 0, 0)", x -> x.name(slot, 0, 0), -2);
        }
    }

    private static void noSuchElement() {
        for (int g : NO_ELEMENTS_OF_SIX) {
            refused("step(0, " + g + ")", x -> x.step(0, g), -2);
            refused("product(0, " + g + ", 0)", x -> x.product(0, g, 0), -2);
            refused("product(0, 0, " + g + ")", x -> x.product(0, 0, g), -2);
            refused("element(0, " + g + ", 0)", x -> x.element(0, g, 0), -2);
            refused("classOf(0, " + g + ")", x -> x.classOf(0, g), -2);
            refused("mapped(" + g + ")", x -> x.mapped(g), -2);
            refused("far(0, " + g + ", 0)", x -> x.far(0, g, 0), -2);
            refused("far(0, 0, " + g + ")", x -> x.far(0, 0, g), -2);
            refused("way(0, " + g + ", 0)", x -> x.way(0, g, 0), -2);
            refused("alikeTo(0, " + g + ")", x -> x.alikeTo(0, g), -2);
            refused("alike(" + g + ")", x -> x.alike(g), -2);
            refused("name(0, " + g + ", 0)", x -> x.name(0, g, 0), -2);
        }
        refused("step(0, 0)", x -> x.step(0, 0), -2);
        refused("step(1, 0)", x -> x.step(1, 0), -2);
        refused("step(1, 2), 2 being of slot 0 alone", x -> x.step(1, 2), -2);
        refused("product(1, 2, 0)", x -> x.product(1, 2, 0), -2);
        refused("element(1, 2, 2)", x -> x.element(1, 2, 2), -2);
        refused("name(1, 2, 0)", x -> x.name(1, 2, 0), -2);
    }

    private static void noSuchWhat() {
        for (int what : new int[] {LEAST, -2, -1, 7, 8, MOST}) {
            refused("size(0, " + what + ")", x -> x.size(0, what), -2);
        }
        for (int what : new int[] {LEAST, -2, -1, 4, 5, MOST}) {
            refused("element(0, 0, " + what + ")", x -> x.element(0, 0, what), -2);
            refused("regular(1, " + what + ")", x -> x.regular(1, what), -2);
        }
    }

    private static void numbersThatCannotBe() {
        Doc.sentence(TERMS, "-3 a number can't be;");
        for (int n : new int[] {LEAST, -2, -1, 21, 22, 300, MOST}) {
            refused("tell(0, " + n + ")", x -> x.tell(0, n), -3);
            refused("tell(1, " + n + ")", x -> x.tell(1, n), -3);
        }
        for (int set : NO_SETS_OF_SIX) {
            refused("quotient(0, " + set + ")", x -> x.quotient(0, set), -3);
            refused("generated(0, " + set + ")", x -> x.generated(0, set), -3);
            refused("kind(0, " + set + ")", x -> x.kind(0, set), -3);
        }
        refused("quotient(1, 4), 2 being of slot 0 alone", x -> x.quotient(1, 4), -3);
        refused("generated(1, 4)", x -> x.generated(1, 4), -3);
        refused("kind(1, 4)", x -> x.kind(1, 4), -3);
        for (int below : new int[] {LEAST, -2, -1}) {
            refused("subgroup(0, " + below + ")", x -> x.subgroup(0, below), -3);
            refused("way(0, 1, " + below + ")", x -> x.way(0, 1, below), -3);
            refused("name(0, 1, " + below + ")", x -> x.name(0, 1, below), -3);
        }
        for (int below : new int[] {LEAST, -3, -2}) {
            refused("sphere(0, " + below + ")", x -> x.sphere(0, below), -3);
        }
    }

    private static void tooMany() {
        Doc.sentence(TERMS, "-4 too many;");
        StepNets full = new StepNets();
        Check.feed(full, "group d 3;" + " ".repeat(280) + "both;both;");
        Check.due("300 bytes", full.count(1), 300);
        Check.due("feed", full.feed(-1, -1, -1, -1, -1), -4);
        Check.due("still 300", full.count(1), 300);
        Check.due("the same bytes", full.tell(1, 300), 6);
        StepNets x = Check.told("group c 6;steps 1 2 3 4 5;", "group c 6;steps 2;");
        StepNets y = Check.told("group c 6;steps 1 2 3 4 5;", "group c 6;steps 2;");
        x.step(1, 3);
        y.step(1, 3);
        Check.due("other of five steps", x.other(), -4);
        Check.holds("nothing changes", Check.used(x, true).equals(Check.used(y, true)));
    }

    private static void whatCannotBe() {
        Doc.sentence(TERMS, "-5 it can't be (no NORMAL SUBGROUP, nothing to undo, GROUPS of unlike size);");
        for (int set : new int[] {0, 2, 3, 6, 0b001001, 0b100001, 0b111000, 0b111001, 62}) {
            refused("quotient(0, " + set + ")", x -> x.quotient(0, set), -5);
        }
        refused("quotient(1, 0)", x -> x.quotient(1, 0), -5);
        refused("quotient(1, 2)", x -> x.quotient(1, 2), -5);
        refused("other()", StepNets::other, -5);
        StepNets x = Check.told("group d 3;steps 1;", "group c 4;");
        Check.feed(x, "both;");
        StepNets y = Check.told("group d 3;steps 1;", "group c 4;");
        Check.feed(y, "both;");
        Check.due("undo of none", x.undo(), -5);
        Check.due("undo of none", x.undo(), -5);
        Check.holds("nothing changes", Check.used(x, true).equals(Check.used(y, true)));
    }

    private static void textsAtFault() {
        Doc.sentence(TERMS, "-30 less the FAULT: a text (THE TAPE is empty then; nothing else changes).");
        String[] texts = {"both;steps 1;both", "both;steps 6;", "perms 1023,1230;"};
        int[] places = {17, 11, 0};
        for (int found = 1; found <= 3; found++) {
            StepNets x = busy();
            StepNets y = busy();
            y.tell(0, 20);
            x.tell(0, 20);
            Check.due("text at fault " + found, Check.tell(x, 0, texts[found - 1]), -30 - found);
            Check.due("the tape is empty", x.count(1), 0);
            Check.due("its fault", x.fault(0), found);
            Check.due("its place", x.fault(1), places[found - 1]);
            Check.holds("nothing else changes", Check.used(x, false).equals(Check.used(y, false)));
        }
        StepNets x = busy();
        Check.due("a byte behind the text's end is one too many", x.tell(0, 9), -31);
        Check.due("at it", x.fault(1), 8);
        Check.due("the whole tape is empty", x.count(1), 0);
        Check.due("the acts stay", x.count(0), 4);
    }

    private static void whichIsToldFirst() {
        Doc.sentence(TERMS, "(Of several that which the call tells first; all these ahead of NONE.)");
        refused("tell: slot, n", x -> x.tell(2, -1), -2);
        refused("tell: slot, n", x -> x.tell(-1, 21), -2);
        refused("tell: slot, a fault", x -> x.tell(2, 9), -2);
        refused("quotient: slot, bits", x -> x.quotient(2, -1), -2);
        refused("quotient: slot, no subgroup", x -> x.quotient(2, 0), -2);
        refused("quotient: bits, no subgroup", x -> x.quotient(0, 64), -3);
        refused("quotient: bits, no subgroup", x -> x.quotient(0, 64 | 9), -3);
        refused("generated: slot, bits", x -> x.generated(2, -1), -2);
        refused("subgroup: slot, k", x -> x.subgroup(2, -1), -2);
        refused("kind: slot, bits", x -> x.kind(2, 64), -2);
        refused("sphere: slot, k", x -> x.sphere(2, -2), -2);
        refused("way: slot, i", x -> x.way(2, 0, -1), -2);
        refused("way: h, i", x -> x.way(0, 6, -1), -2);
        refused("name: slot, i", x -> x.name(2, 0, -1), -2);
        refused("name: x, i", x -> x.name(0, 6, -1), -2);
        StepNets x = Check.told("group c 6;steps 1 2 3 4 5;", "group c 5;");
        Check.due("other: unlike size, five steps", x.other(), -5);
    }

    private static void aheadOfNone() {
        StepNets x = Check.told("group c 6;steps 2;", "group d 3;steps 1 3;");
        Check.due("no group map", x.mapped(5), -1);
        Check.due("but 6 is none", x.mapped(6), -2);
        Check.due("no network map", x.alike(5), -1);
        Check.due("but 6 is none", x.alike(6), -2);
        Check.due("no way", x.far(0, 0, 5), -1);
        Check.due("but 6 is none", x.far(0, 0, 6), -2);
        Check.due("no way", x.way(0, 5, 0), -1);
        Check.due("but i is below 0", x.way(0, 5, -1), -3);
        Check.due("but 6 is none", x.way(0, 6, 0), -2);
        Check.due("not so many", x.subgroup(0, 4), -1);
        Check.due("but there is no slot 2", x.subgroup(2, 4), -2);
        Check.due("not so many", x.name(0, 5, 1), -1);
        Check.due("but 6 is none", x.name(0, 6, 1), -2);
        StepNets y = Check.told("group c 2 x c 2 x c 2;steps 1 2 3 4 5;", "group c 8;");
        Check.due("none such, but five steps", y.other(), -4);
        StepNets z = Check.told("group c 2 x c 2 x c 2;steps 1 2 4;", "group c 8;");
        Check.due("none such", z.other(), -1);
        Check.tell(z, 1, "group c 7;");
        Check.due("none such, but of unlike size", z.other(), -5);
    }

    private static void none() {
        Doc.sentence(TERMS, "The constants: NONE = -1: There is none.");
        Check.due("NONE", StepNets.NONE, -1);
    }
}
