/** Each sentence of the document that names a boundary case has a test of its own, and none is left out. */
public final class BoundaryTests {
    public static void main(String[] args) {
        whatItIs();
        BoundaryOfTexts.run();
        BoundaryOfGroups.run();
        BoundaryOfRefusals.run();
        BoundaryOfPromises.run();
        Check.sentence("", "the document as a whole");
        withoutBoundary();
        Doc.wholly("What it is");
        Doc.wholly("Terms");
        for (int promise = 1; promise <= 29; promise++) {
            Doc.wholly("Promise " + promise);
        }
        Check.end();
    }

    private static void whatItIs() {
        Doc.sentence("What it is",
            "An object is used for at most 512 calls after it has been made; what later calls answer is free.");
        StepNets primes = new StepNets();
        for (int call = 1; call <= 510; call++) {
            Check.due("quotient, call " + call, primes.quotient(0, 1), 1);
        }
        Check.due("the 510th prime, call 511", primes.name(0, 0, 510), '\'');
        Check.due("no 511th, call 512", primes.name(0, 0, 511), -1);
        StepNets steps = Check.told("group c 2;", "");
        for (int call = 4; call <= 510; call++) {
            Check.due("step, call " + call, steps.step(0, 1), call % 2 == 0 ? 1 : 0);
        }
        Check.due("call 511", steps.undo(), 7);
        Check.due("call 512", steps.size(0, 1), 0);
        StepNets others = Check.told("group c 20;steps 1;", "group q 5;");
        for (int call = 5; call <= 512; call++) {
            Check.due("other, call " + call, others.other(), -1);
        }
    }

    private static void withoutBoundary() {
        Doc.noBoundary("What it is", "Networks from groups and steps: groups told as texts, as products of known ones or by "
            + "rows of places that are changed about, as tables; what commutes, subgroups, classes, symmetries of a group, "
            + "whether two groups are one; steps of a group, told or by hand, and the network in which each element leads by "
            + "each step to another one: ways and how long they are, spheres, rings, parts; all symmetries of the network, "
            + "counted, the points that are alike as seen from one, whether all symmetries come of the group's own; networks "
            + "that are alike, by what; the same network out of another group; what is left by a part of a group; names of "
            + "elements; what was done, undone. ==== 1.");
        Doc.noBoundary("Terms", "==== 2.");
        Doc.noBoundary("Terms", "==== 3.");
        Doc.noBoundary("Terms", "==== 4.");
        Doc.noBoundary("Terms", "Ahead of the calls step, both, quotient, undo the interface says: ---- by hand.");
        Doc.noBoundary("Terms", "Ahead of the calls size, product, element, classOf, generated, subgroup, kind, maps, mapped "
            + "the interface says: ---- groups.");
        Doc.noBoundary("Terms", "Ahead of the calls far, sphere, way, ring, parts the interface says: ---- networks.");
        Doc.noBoundary("Terms",
            "Ahead of the calls symmetries, alikeTo, regular, alike, other the interface says: ---- symmetries.");
        Doc.noBoundary("Terms", "Ahead of the calls name, count the interface says: ---- names.");
    }
}
