/** Boundary cases of part ==== 1. of the document's terms, sentence by sentence: slots, texts, faults, acts. */
final class BoundaryOfTexts {
    private static final String TERMS = "Terms";
    private static final String TWENTY = "perms 12340,13024";
    private static final String TWENTY_ONE = "perms 1234560,0246135";

    private BoundaryOfTexts() {
    }

    static void run() {
        slots();
        elementsAtMostTwenty();
        zeroChangesNothing();
        linesOfAText();
        partsOfALine();
        factors();
        sumByN();
        turnsByN();
        turnsByTwoN();
        evenOrders();
        digitsOfRows();
        elementsOfPerms();
        productOfOrders();
        productsOfFactors();
        groupOnce();
        stepsOfALine();
        bothOfALine();
        withoutGroup();
        wordsAndNumbers();
        blanks();
        firstFault();
        cutTexts();
        whatCannotStand();
        numbersOutOfBounds();
        rowsOutOfBounds();
        tooManyElements();
        faultChangesNothing();
        actsThatCanBeUndone();
        actsOfBothSlots();
        actsThatAreForgotten();
    }

    private static void slots() {
        Doc.sentence(TERMS, "SLOTS 0 and 1: each a GROUP (of ELEMENTS 0, 1 .., 20 at most; 0 alone at first; "
            + "0 is the one that changes nothing) and STEPS (ELEMENTS but 0; none at first).");
        StepNets x = new StepNets();
        Check.due("size(-1, 0)", x.size(-1, 0), -2);
        Check.due("size(0, 0)", x.size(0, 0), 1);
        Check.due("size(1, 0)", x.size(1, 0), 1);
        Check.due("size(2, 0)", x.size(2, 0), -2);
        Check.due("steps at first, slot 0", x.size(0, 1), 0);
        Check.due("steps at first, slot 1", x.size(1, 1), 0);
        Check.due("only 0 at first", x.element(0, 1, 0), -2);
        Check.tell(x, 1, "group c 2;steps 1;");
        Check.due("slot 0 is no slot 1", x.size(0, 0), 1);
        Check.due("slot 0 has no steps of slot 1", x.size(0, 1), 0);
        Check.due("1 can be a step", x.element(1, 1, 2), 1);
        Check.due("0 can't be a step", x.step(1, 0), -2);
        Check.due("0 is none", x.element(1, 0, 2), 0);
    }

    private static void elementsAtMostTwenty() {
        Check.due("19 is the last of 20", Check.taken("group c 20;", 20).product(0, 19, 0), 19);
        Check.due("20 is none of 20", Check.taken("group c 20;", 20).product(0, 20, 0), -2);
        Check.taken("group d 10;", 20);
        Check.taken("group q 5;", 20);
        Check.taken("group c 4 x c 5;", 20);
        Check.taken(TWENTY + ";", 20);
        Check.fault("group c 3 x c 7;", 3, 12);
        Check.fault(TWENTY_ONE + ";", 3, 0);
    }

    private static void zeroChangesNothing() {
        String[] texts = {"c 1", "c 20", "d 1", "d 10", "q 2", "q 5", "a", "c 4 x d 2"};
        for (String text : texts) {
            zeroChangesNothingIn("group " + text + ";");
        }
        zeroChangesNothingIn(TWENTY + ";");
        zeroChangesNothingIn("perms 01;");
    }

    private static void zeroChangesNothingIn(String text) {
        StepNets x = new StepNets();
        int order = Check.tell(x, 0, text);
        for (int i = 0; i < order; i++) {
            Check.due(text + " 0 times " + i, x.product(0, 0, i), i);
            Check.due(text + " " + i + " times 0", x.product(0, i, 0), i);
        }
    }

    private static void linesOfAText() {
        Doc.sentence(TERMS, "THE TEXT: { LINE ; }.");
        Check.taken("", 1);
        Check.taken(" ", 1);
        Check.taken("both;", 1);
        Check.taken("both;both;", 1);
        Check.taken("both;".repeat(60), 1);
        Check.fault("both", 1, 4);
        Check.fault("both;both", 1, 9);
        Check.fault(";", 1, 0);
        Check.fault("both;;", 1, 5);
        Check.fault(";both;", 1, 0);
    }

    private static void partsOfALine() {
        Doc.sentence(TERMS, "LINE: group FACTOR { x FACTOR } | perms ROW { , ROW } | steps N { N } | both.");
        Check.fault("group;", 1, 5);
        Check.taken("group c 2;", 2);
        Check.taken("group c 2 x c 2;", 4);
        Check.fault("group c 2 x;", 1, 11);
        Check.fault("group x c 2;", 1, 6);
        Check.fault("group c 2 c 2;", 1, 10);
        Check.fault("group c 2,c 2;", 1, 9);
        Check.taken("group c1" + "x c1".repeat(72) + ";  ", 1);
        Check.fault("perms;", 1, 5);
        Check.taken("perms 10;", 2);
        Check.taken("perms 1023,0132;", 4);
        Check.fault("perms 10,;", 1, 9);
        Check.fault("perms ,10;", 1, 6);
        Check.fault("perms 10 01;", 1, 9);
        Check.fault("perms 10 x 01;", 1, 9);
        Check.taken("perms 10" + ",01".repeat(97) + ";", 2);
        Check.fault("group c 3;steps;", 1, 15);
        Check.taken("group c 3;steps 1;", 3);
        Check.taken("group c 3;steps 1 2;", 3);
        Check.fault("group c 3;steps 1,2;", 1, 17);
        Check.due("as many as there is room for",
            Check.taken("group c 3;steps" + " 1 2".repeat(71) + ";", 3).size(0, 1), 2);
        Check.taken("both;", 1);
        Check.fault("both 1;", 1, 5);
        Check.fault("both both;", 1, 5);
    }

    private static void factors() {
        Doc.sentence(TERMS, "FACTOR: c N (N 1 to 20) | d N (1 to 10) | q N (2 to 5) | a.");
        bounds("c", 1, 20, 1);
        bounds("d", 1, 10, 2);
        bounds("q", 2, 5, 4);
        Check.fault("group q 0;", 2, 8);
        Check.taken("group a;", 12);
        Check.fault("group a 1;", 1, 8);
        Check.fault("group c;", 1, 7);
        Check.fault("group b 2;", 1, 6);
        Check.fault("group e 2;", 1, 6);
        Check.fault("group p 2;", 1, 6);
        Check.fault("group r 2;", 1, 6);
    }

    private static void bounds(String letter, int least, int most, int times) {
        Check.fault("group " + letter + " " + (least - 1) + ";", 2, 8);
        Check.taken("group " + letter + " " + least + ";", least * times);
        Check.taken("group " + letter + " " + most + ";", most * times);
        Check.fault("group " + letter + " " + (most + 1) + ";", 2, 8);
        Check.fault("group " + letter + " 99;", 2, 8);
    }

    private static void sumByN() {
        Doc.sentence(TERMS, "c N: ELEMENTS 0 to N less 1, the product is the sum by N.");
        for (int n = 1; n <= 20; n++) {
            StepNets x = Check.taken("group c " + n + ";", n);
            Check.due("last and 1 of c " + n, x.product(0, n - 1, n > 1 ? 1 : 0), 0);
            Check.due("last and last of c " + n, x.product(0, n - 1, n - 1), n > 1 ? n - 2 : 0);
            Check.due("last but one and 1 of c " + n, x.product(0, Math.max(0, n - 2), n > 1 ? 1 : 0), n - 1);
            Check.due("N is none of c " + n, x.product(0, n, 0), -2);
        }
    }

    private static void turnsByN() {
        Doc.sentence(TERMS, "d N: ELEMENTS r and N times f, r below N, f 0 or 1: r, f times s, g is r and s (f 0), "
            + "r less s (f 1), by N, and f, if g is 0, else 1 less f.");
        for (int n = 2; n <= 10; n++) {
            StepNets x = Check.taken("group d " + n + ";", 2 * n);
            turnsGoRound(x, "d " + n, n);
            Check.due("a flip twice", x.product(0, n, n), 0);
            Check.due("flip 0, flip 1: below 0", x.product(0, n, n + 1), n - 1);
            Check.due("last flip, last flip", x.product(0, 2 * n - 1, 2 * n - 1), 0);
        }
        StepNets least = Check.taken("group d 1;", 2);
        Check.due("d 1: 1 times 1", least.product(0, 1, 1), 0);
    }

    private static void turnsByTwoN() {
        Doc.sentence(TERMS, "q N: ELEMENTS r and 2 N times f, r below 2 N, f 0 or 1: r, f times s, g is r and s (f 0), "
            + "r less s (f 1), and N more, if f and g are 1, by 2 N, and f, if g is 0, else 1 less f.");
        for (int n = 2; n <= 5; n++) {
            StepNets x = Check.taken("group q " + n + ";", 4 * n);
            turnsGoRound(x, "q " + n, 2 * n);
            Check.due("a flip twice: N more", x.product(0, 2 * n, 2 * n), n);
            Check.due("flip 0, flip 1: below 0 and N more", x.product(0, 2 * n, 2 * n + 1), n - 1);
            Check.due("flip N, flip 0: 2 N is 0", x.product(0, 3 * n, 2 * n), 0);
            Check.due("last flip, flip 0: N more goes round", x.product(0, 4 * n - 1, 2 * n), n - 1);
        }
    }

    /** What turns and flips have in common; the turns come first, as many flips behind them. */
    private static void turnsGoRound(StepNets x, String text, int turns) {
        int last = turns - 1;
        Check.due(text + ": last turn, turn 1", x.product(0, last, 1), 0);
        Check.due(text + ": last turn, last turn", x.product(0, last, last), turns - 2);
        Check.due(text + ": last turn, last flip", x.product(0, last, turns + last), 2 * turns - 2);
        Check.due(text + ": turn 1, last flip", x.product(0, 1, turns + last), turns);
        Check.due(text + ": flip 0, turn 1 is below 0", x.product(0, turns, 1), turns + last);
        Check.due(text + ": last flip, last turn", x.product(0, turns + last, last), turns);
        Check.due(text + ": flip 0, turn 0", x.product(0, turns, 0), turns);
        Check.due(text + ": none behind", x.product(0, 2 * turns, 0), -2);
    }

    private static void evenOrders() {
        Doc.sentence(TERMS, "a: the 12 even orders of 0 to 3 (such as are made by an even number of swaps), "
            + "by their rows of images as numbers rising.");
        StepNets x = Check.taken("group a;", 12);
        Check.due("0123 is the first", x.element(0, 0, 1), 1);
        Check.due("1: 0231, three times", x.element(0, 1, 1), 3);
        Check.due("11: 3210, two swaps", x.element(0, 11, 1), 2);
        Check.due("0231 then 3210 is 3102", x.product(0, 1, 11), 10);
        Check.due("3210 then 0231 is 1320", x.product(0, 11, 1), 5);
        Check.due("no 13th", x.element(0, 12, 1), -2);
    }

    private static void digitsOfRows() {
        Doc.sentence(TERMS, "ROW: an order of 0 to m less 1 (m 2 to 8, for all ROWS of a LINE as many; "
            + "digits in one: 1203 leads 0 to 1, 1 to 2, 2 to 0);");
        Check.fault("perms 0;", 2, 6);
        Check.taken("perms 01;", 1);
        Check.taken("perms 10;", 2);
        Check.taken("perms 12345670;", 8);
        Check.fault("perms 123456780;", 2, 6);
        Check.taken("perms 10,01;", 2);
        Check.fault("perms 10,102;", 2, 9);
        Check.fault("perms 102,10;", 2, 10);
        Check.fault("perms 12;", 2, 6);
        Check.fault("perms 1 0;", 2, 6);
        StepNets x = Check.taken("perms 1203;", 3);
        Check.holds("named by images", Check.nameOf(x, 0, 1).equals("1203"));
        Check.holds("twice: 0 to 2, 1 to 0, 2 to 1", Check.nameOf(x, 0, 2).equals("2013"));
        StepNets y = Check.taken("perms 1203;both;", 3);
        Check.due("another text of rows of other length", Check.tell(y, 0, "perms 10;"), 2);
    }

    private static void elementsOfPerms() {
        Doc.sentence(TERMS, "ELEMENTS of perms: 0 leads each to itself; then for each ELEMENT, as they come, and each ROW, "
            + "as told, their product, if it is none yet, is the next one.");
        named("perms 01;", "01");
        named("perms 01,10,10;", "01", "10");
        named("perms 102,021;", "012", "102", "021", "201", "120", "210");
        named("perms 021,102;", "012", "021", "102", "120", "201", "210");
        named("perms 120,012,021;", "012", "120", "021", "201", "210", "102");
        named("perms 12345670;", "01234567", "12345670", "23456701", "34567012", "45670123", "56701234", "67012345",
            "70123456");
        toldAgain();
    }

    /** Nothing is left of ELEMENTS that were told before. */
    private static void toldAgain() {
        StepNets x = new StepNets();
        String[] texts = {TWENTY + ";", TWENTY + ";", "perms 12345;", TWENTY_ONE + ";", TWENTY + ";", "perms 10234;"};
        int[] answers = {20, 20, -32, -33, 20, 2};
        for (int i = 0; i < texts.length; i++) {
            Check.due(texts[i] + " told as number " + i, Check.tell(x, 0, texts[i]), answers[i]);
        }
        Check.due("first the first one, as ever", x.product(0, 1, 1), 0);
        StepNets once = Check.told(TWENTY + ";", "");
        StepNets twice = Check.told(TWENTY + ";", TWENTY + ";");
        for (int i = 0; i < 20; i++) {
            for (int j = 0; j < 20; j++) {
                Check.due("told twice: " + i + " times " + j, twice.product(1, i, j), once.product(0, i, j));
            }
        }
    }

    private static void named(String text, String... names) {
        StepNets x = Check.taken(text, names.length);
        for (int i = 0; i < names.length; i++) {
            Check.holds(text + " " + i + " is " + names[i], Check.nameOf(x, 0, i).equals(names[i]));
        }
    }

    private static void productOfOrders() {
        Doc.sentence(TERMS, "Product of two orders: first the first one, then the second.");
        StepNets x = Check.taken("perms 120,021;", 6);
        Check.due("120 then 021", x.product(0, 1, 2), 4);
        Check.holds("leads 0 to 1 to 2", Check.nameOf(x, 0, 4).equals("210"));
        Check.due("021 then 120", x.product(0, 2, 1), 5);
        Check.holds("leads 0 to 0 to 1", Check.nameOf(x, 0, 5).equals("102"));
    }

    private static void productsOfFactors() {
        Doc.sentence(TERMS, "Products x: ELEMENT i of the first with j of the second is i and (how many the first has) "
            + "times j; so on from the left.");
        StepNets x = Check.taken("group c 2 x c 3 x c 3;", 18);
        Check.due("1 of the first goes round alone", x.product(0, 1, 1), 0);
        Check.due("2 of the second goes round alone", x.product(0, 4, 2), 0);
        Check.due("2 of the third goes round alone", x.product(0, 12, 6), 0);
        Check.due("all go round", x.product(0, 17, 9), 0);
        Check.due("each by itself", x.product(0, 17, 17), 8);
        StepNets y = Check.taken("group c 3 x c 2;", 6);
        Check.due("the first has 3: 3 times 3", y.product(0, 3, 3), 0);
        Check.due("2 and 1 of the first", y.product(0, 2, 1), 0);
        StepNets z = Check.taken("group c 1 x c 20 x c 1;", 20);
        Check.due("ones change nothing", z.product(0, 19, 19), 18);
    }

    private static void groupOnce() {
        Doc.sentence(TERMS, "group, perms: once in THE TEXT, one of them, and ahead of steps, both.");
        Check.taken("both;", 1);
        Check.taken("group c 2;", 2);
        Check.taken("perms 10;both;steps 1;", 2);
        Check.fault("group c 2;group c 2;", 1, 10);
        Check.fault("group c 2;perms 10;", 1, 10);
        Check.fault("perms 10;perms 10;", 1, 9);
        Check.fault("perms 10;group c 2;", 1, 9);
        Check.fault("both;group c 2;", 1, 5);
        Check.fault("both;perms 10;", 1, 5);
        Check.fault("group c 2;both;group c 2;", 1, 15);
        StepNets x = Check.taken("group c 2;", 2);
        Check.due("behind steps", Check.tell(x, 0, "steps 1;group c 3;"), -31);
        Check.due("at it", x.fault(1), 8);
        Check.due("behind steps", Check.tell(x, 0, "steps 1;perms 10;"), -31);
        Check.due("at it", x.fault(1), 8);
        Check.due("once in each text", Check.tell(x, 0, "group c 3;"), 3);
    }

    private static void stepsOfALine() {
        Doc.sentence(TERMS, "steps: these (N 1 to ELEMENTS less 1) and no others are the STEPS then (as often as one likes).");
        Check.fault("group c 20;steps 0;", 2, 17);
        Check.due("1", Check.taken("group c 20;steps 1;", 20).element(0, 1, 2), 1);
        Check.due("19", Check.taken("group c 20;steps 19;", 20).element(0, 19, 2), 1);
        Check.fault("group c 20;steps 20;", 2, 17);
        Check.fault("group c 20;steps 1 0;", 2, 19);
        Check.fault("group c 20;steps 19 20;", 2, 20);
        Check.fault("group c 1;steps 1;", 2, 16);
        Check.fault("steps 1;", 2, 6);
        Check.due("1 of 2", Check.taken("group c 2;steps 1;", 2).size(0, 1), 1);
        Check.fault("group c 2;steps 2;", 2, 16);
        Check.due("one twice is one", Check.taken("group c 4;steps 3 3;", 4).size(0, 1), 1);
        StepNets all = Check.taken("group c 20;steps 1 2 3 4 5 6 7 8 9 10 11 12 13 14 15 16 17 18 19;", 20);
        Check.due("all but 0", all.size(0, 1), 19);
        StepNets x = Check.taken("group c 5;steps 1 2;steps 4;steps 2 3;", 5);
        Check.due("the latest line's two", x.size(0, 1), 2);
        Check.due("2", x.element(0, 2, 2), 1);
        Check.due("3", x.element(0, 3, 2), 1);
        Check.due("no others", Check.tell(x, 0, "steps 1;"), 5);
        Check.due("1 alone", x.size(0, 1), 1);
    }

    private static void bothOfALine() {
        Doc.sentence(TERMS, "both: the STEPS, and what undoes each of them.");
        Check.due("none", Check.taken("group c 5;both;", 5).size(0, 1), 0);
        StepNets x = Check.taken("group c 6;steps 1 3;both;", 6);
        Check.due("3 undoes itself", x.size(0, 1), 3);
        Check.due("5 undoes 1", x.element(0, 5, 2), 1);
        Check.due("all", Check.taken("group c 4;steps 1 2 3;both;", 4).size(0, 1), 3);
        Check.due("once more", Check.taken("group c 5;steps 1;both;both;", 5).size(0, 1), 2);
        Check.due("steps behind it", Check.taken("group c 5;steps 1;both;steps 2;", 5).size(0, 1), 1);
    }

    private static void withoutGroup() {
        Doc.sentence(TERMS, "Without group, perms GROUP stays, and STEPS that there are (with them: none at first).");
        StepNets x = Check.taken("group q 2;steps 1 4;", 8);
        Check.due("no line", Check.tell(x, 0, ""), 8);
        Check.due("the steps stay", x.size(0, 1), 2);
        Check.due("the group stays", x.product(0, 4, 4), 2);
        Check.due("both", Check.tell(x, 0, "both;"), 8);
        Check.due("of the steps that there are", x.size(0, 1), 4);
        Check.due("the same group anew", Check.tell(x, 0, "group q 2;"), 8);
        Check.due("no steps", x.size(0, 1), 0);
        x.step(0, 1);
        Check.due("group, both", Check.tell(x, 0, "group q 2;both;"), 8);
        Check.due("no steps for both", x.size(0, 1), 0);
        x.step(0, 1);
        Check.due("perms, both", Check.tell(x, 0, "perms 1230;both;"), 4);
        Check.due("no steps for both", x.size(0, 1), 0);
        x.quotient(0, 0b0101);
        Check.due("a quotient stays, too", Check.tell(x, 0, "steps 1;"), 2);
        Check.holds("with its names", Check.nameOf(x, 0, 1).equals("1230'"));
    }

    private static void wordsAndNumbers() {
        Doc.sentence(TERMS, "Words (a to z, as long as they go on), digits (likewise), other bytes one by one; "
            + "blanks (32) may stand between all, one at least between words, between numbers.");
        Check.fault("groupa c 2;", 1, 0);
        Check.fault("groupz c 2;", 1, 0);
        Check.fault("group`c 2;", 1, 5);
        Check.fault("group{c 2;", 1, 5);
        Check.fault("groupA c 2;", 1, 5);
        Check.fault("groupZ c 2;", 1, 5);
        Check.fault("zboth;", 1, 0);
        Check.taken("group c 09;", 9);
        Check.fault("group c 90;", 2, 8);
        Check.fault("group c 2/;", 1, 9);
        Check.fault("group c 2:;", 1, 9);
        Check.fault("group c /2;", 1, 8);
        Check.fault("group c :2;", 1, 8);
        Check.fault("group c -2;", 1, 8);
        Check.fault("both;!!", 1, 5);
        Check.fault("perms 10,,01;", 1, 9);
        Check.taken("group c2x d2;both;", 8);
        Check.fault("group c2xd2;", 1, 8);
        Check.fault("groupc 2;", 1, 0);
        Check.fault("group ax c 1;", 1, 6);
        Check.fault("gro up c 2;", 1, 0);
        Check.due("steps1 2: two of them", Check.taken("group c4;steps1 2;", 4).size(0, 1), 2);
        Check.due("steps 12: one number", Check.taken("group c20;steps 12;", 20).element(0, 12, 2), 1);
        Check.fault("group c4;steps 12;", 2, 15);
        Check.fault("group c 1 2;", 1, 10);
    }

    private static void blanks() {
        Check.taken("  group  c  2  x  c  3  ;  steps  1  2  ;  both  ;  ", 6);
        Check.taken("  perms  102  ,  021  ;  ", 6);
        Check.taken(" ".repeat(299) + " ", 1);
        Check.taken(" ".repeat(295) + "both;", 1);
        Check.fault("both" + (char) 31 + ";", 1, 4);
        Check.fault("both" + (char) 33 + ";", 1, 4);
        for (int sign : new int[] {0, 9, 10, 13, 127, 128, 160, 255}) {
            Check.fault("both;" + (char) sign, 1, 5);
            Check.fault((char) sign + "both;", 1, 0);
        }
        Check.fault((char) (128 + 'b') + "oth;", 1, 0);
        Check.fault("group c " + (char) (128 + '2') + ";", 1, 8);
    }

    private static void firstFault() {
        Doc.sentence(TERMS, "FAULTS, the first along THE TEXT (of one place the least):");
        Check.fault("group c 0 x e;", 2, 8);
        Check.fault("group e x c 0;", 1, 6);
        Check.fault("group c 5 x c 5 x c 0;", 3, 12);
        Check.fault("group c 5 x c 0 x c 20;", 2, 14);
        Check.fault("group c 5 x c 5 !", 3, 12);
        Check.fault("group c 5 ! x c 5;", 1, 10);
        Check.fault(TWENTY_ONE + "!", 3, 0);
        Check.fault(TWENTY_ONE, 3, 0);
        Check.fault(TWENTY_ONE + ",", 1, 22);
        Check.fault(TWENTY_ONE + ",10;", 2, 22);
        Check.fault("both;" + TWENTY_ONE + ";", 1, 5);
        Check.fault("group c 2;" + TWENTY_ONE + ";", 1, 10);
        Check.fault("both 999;", 1, 5);
        Check.fault("group a 0;", 1, 8);
        Check.fault("group c 3 21;", 1, 10);
        Check.fault("999;", 1, 0);
        Check.fault("group c 3;steps 3 x;", 2, 16);
        Check.fault("group c 3;steps x 3;", 1, 16);
        Check.fault("group c 20 x c 21;", 2, 15);
        Check.fault("group c 20 x q 1;", 2, 15);
        firstOfTwoThatCannotStand();
    }

    /** Where a LINE breaks off at its ; and another fault follows. */
    private static void firstOfTwoThatCannotStand() {
        Check.fault(";;", 1, 0);
        Check.fault(";x", 1, 0);
        Check.fault("x;;", 1, 0);
        Check.fault("group;!", 1, 5);
        Check.fault("group c;!", 1, 7);
        Check.fault("group c 2 x;!", 1, 11);
        Check.fault("group c 0;!", 2, 8);
        Check.fault("group a x a;!", 3, 10);
        Check.fault("perms;!", 1, 5);
        Check.fault("perms 10,;!", 1, 9);
        Check.fault("perms 11;!", 2, 6);
        Check.fault("group c 3;steps;!", 1, 15);
        Check.fault("group c 3;steps 3;!", 2, 16);
        Check.fault("group c 3;group c 3;!", 1, 10);
    }

    private static void cutTexts() {
        Doc.sentence(TERMS, "1 what can't stand there (at it; the end: how many bytes there are; "
            + "group, perms a second time, or behind steps, both, too),");
        String text = "group c 3 x d 2;steps 1 2;both;";
        for (int n = 0; n <= text.length(); n++) {
            String cut = text.substring(0, n);
            if (n == 0 || n == 16 || n == 26 || n == 31) {
                Check.taken(cut, n == 0 ? 1 : 12);
            } else if (n < 5) {
                Check.fault(cut, 1, 0);
            } else if (n > 16 && n < 21) {
                Check.fault(cut, 1, 16);
            } else if (n > 26 && n < 30) {
                Check.fault(cut, 1, 26);
            } else {
                Check.fault(cut, 1, n);
            }
        }
        int[] places = {0, 0, 0, 0, 0, 5, 6, 6, 8, 9, 10, 10, 10, 13};
        int[] found = {0, 1, 1, 1, 1, 1, 1, 2, 1, 1, 1, 2, 2, 1};
        for (int n = 1; n < 14; n++) {
            Check.fault("perms 102,021;".substring(0, n), found[n], places[n]);
        }
        Check.taken("perms 102,021;", 6);
    }

    private static void whatCannotStand() {
        Check.fault("group c 2   ", 1, 12);
        Check.fault("group" + " ".repeat(295), 1, 300);
        Check.fault("both;" + " ".repeat(294) + "!", 1, 299);
        Check.fault("group c 3;group", 1, 10);
        Check.fault("group c 3;perms", 1, 10);
        Check.fault("group c 3;steps 1;group", 1, 18);
        Check.fault("group c 3;steps 1;perms", 1, 18);
        Check.fault("both;  group", 1, 7);
        Check.fault("both;  perms", 1, 7);
        Check.fault("a;", 1, 0);
        Check.fault("1;", 1, 0);
        Check.fault("x;", 1, 0);
        Check.fault(",", 1, 0);
        Check.fault("group group c 2;", 1, 6);
        Check.fault("perms c 2;", 1, 6);
        Check.fault("group 10;", 1, 6);
    }

    private static void numbersOutOfBounds() {
        Doc.sentence(TERMS, "2 a number out of its bounds, of more than two digits (at it; of ROWS: no order of as many as it "
            + "has digits, fewer than 2, more than 8 digits, not as many as the first one),");
        Check.taken("group c 5;", 5);
        Check.taken("group c 05;", 5);
        Check.fault("group c 005;", 2, 8);
        Check.fault("group c 005", 2, 8);
        Check.fault("group c 00;", 2, 8);
        Check.fault("group c 000;", 2, 8);
        Check.fault("group c 4294967297;", 2, 8);
        Check.fault("group c 100;", 2, 8);
        Check.fault("group c " + "1".repeat(291) + ";", 2, 8);
        Check.fault("group d 010;", 2, 8);
        Check.fault("group q 002;", 2, 8);
        Check.fault("group c 5;steps 001;", 2, 16);
        Check.fault("group c 5;steps 100;", 2, 16);
        Check.taken("group c 5;steps 01;", 5);
        Check.fault("group c 5;steps 00;", 2, 16);
        Check.fault("group   c   21  ;", 2, 12);
    }

    private static void rowsOutOfBounds() {
        Check.fault("perms 1;", 2, 6);
        Check.fault("perms 00;", 2, 6);
        Check.fault("perms 11;", 2, 6);
        Check.fault("perms 02;", 2, 6);
        Check.fault("perms 20;", 2, 6);
        Check.fault("perms 0123456;perms 9", 1, 14);
        Check.taken("perms 76543210;", 2);
        Check.fault("perms 86543210;", 2, 6);
        Check.fault("perms 96543210;", 2, 6);
        Check.fault("perms 76543211;", 2, 6);
        Check.fault("perms 876543210;", 2, 6);
        Check.fault("perms 0123456789;", 2, 6);
        Check.fault("perms " + "01".repeat(147), 2, 6);
        Check.fault("perms 102,10,!", 2, 10);
        Check.fault("perms 102,1023;", 2, 10);
        Check.fault("perms 102,122;", 2, 10);
        Check.fault("perms 102,021,0;", 2, 14);
        Check.fault("perms 102, 021 , 01;", 2, 17);
    }

    private static void tooManyElements() {
        Doc.sentence(TERMS, "3 more than 20 ELEMENTS (at the FACTOR by which there are, once its N is read; "
            + "of perms at that word, once its ROWS are).");
        Check.taken("group c 20 x c 1;", 20);
        Check.taken("group c 2 x d 5;", 20);
        Check.taken("group c 5 x c 2 x c 2;", 20);
        Check.fault("group c 7 x c 3;", 3, 12);
        Check.fault("group c 11 x c 2;", 3, 13);
        Check.fault("group d 10 x c 2;", 3, 13);
        Check.fault("group c 2 x d 6;", 3, 12);
        Check.taken("group c 2 x q 2;", 16);
        Check.fault("group c 2 x q 3;", 3, 12);
        Check.taken("group c 1 x a;", 12);
        Check.fault("group c 2 x a;", 3, 12);
        Check.fault("group a x d 1;", 3, 10);
        Check.fault("group c 2 x c 3 x c 3 x c 2 x c 2;", 3, 24);
        Check.fault("group c 20 x c 20 x c 20 x c 20 x c 20 x c 20 x c 20 x c 20;", 3, 13);
        Check.fault("group c 20 x c 2", 3, 13);
        Check.fault("group c 20 x c", 1, 14);
        Check.fault("group c 20 x c ;", 1, 15);
        Check.fault("group c 20 x a", 3, 13);
        Check.fault("group c 20 x   c   2;", 3, 15);
        Check.taken(TWENTY + ";", 20);
        Check.fault(TWENTY_ONE + ";", 3, 0);
        Check.fault("   " + TWENTY_ONE + ";", 3, 3);
        Check.fault("perms 1023,1230;", 3, 0);
        Check.fault("perms 12345670,10234567;", 3, 0);
        Check.taken("perms 12045673,01234567;", 15);
    }

    private static void faultChangesNothing() {
        Doc.sentence(TERMS, "With a FAULT nothing changes.");
        String[] texts = {
            "group c 7;steps 1 2;both;!", "group c 7;steps 7;", "group c 7;both;group c 2;", "steps 2;both;steps 6;",
            "perms 10;steps 1;both;x", TWENTY_ONE + ";", "group c 7 x c 7;", "group c 7", "both;both", "steps 2;both;e;"
        };
        for (String text : texts) {
            for (int slot = 0; slot < 2; slot++) {
                StepNets x = Check.told("group d 3;steps 1 3;", "group c 6;steps 1;");
                StepNets y = Check.told("group d 3;steps 1 3;", "group c 6;steps 1;");
                x.step(0, 4);
                y.step(0, 4);
                x.quotient(1, 0b001001);
                y.quotient(1, 0b001001);
                Check.holds("at fault: " + text, Check.tell(x, slot, text) < -30);
                Check.holds("told of: " + text, x.fault(0) > 0 && x.fault(1) >= 0 && x.count(1) == 0);
                Check.holds("all stays with " + text, Check.used(x, false).equals(Check.used(y, false)));
            }
        }
    }

    private static void actsThatCanBeUndone() {
        Doc.sentence(TERMS, "By hand STEPS come and go; ACTS: step(), both(), quotient() that aren't refused "
            + "(even if all is as it was): the latest 8 of both SLOTS together can be UNDONE (tell() that is taken forgets them).");
        StepNets x = Check.taken("group c 5;", 5);
        Check.due("none at first", x.count(0), 0);
        Check.due("none at first", x.undo(), -5);
        for (int i = 1; i <= 20; i++) {
            x.step(0, 1 + i % 4);
            Check.due("after act " + i, x.count(0), Math.min(8, i));
        }
        for (int i = 7; i >= 0; i--) {
            Check.due("undo", x.undo(), i);
        }
        Check.due("no ninth", x.undo(), -5);
        Check.due("the first twelve stay: each of four, three times", x.size(0, 1), 4);
        evenIfAllIsAsItWas();
        ringGoesRound();
    }

    private static void evenIfAllIsAsItWas() {
        StepNets x = Check.taken("group c 2;steps 1;", 2);
        Check.due("both, as it was", x.both(0), 1);
        Check.due("an act", x.count(0), 1);
        Check.due("both of no steps", x.both(1), 0);
        Check.due("an act", x.count(0), 2);
        Check.due("quotient by 0", x.quotient(1, 1), 1);
        Check.due("an act", x.count(0), 3);
        Check.due("a step", x.step(0, 1), 0);
        Check.due("and back", x.step(0, 1), 1);
        Check.due("two acts", x.count(0), 5);
        x.step(0, 0);
        x.both(2);
        x.quotient(0, 2);
        x.quotient(0, 4);
        Check.due("refused ones are none", x.count(0), 5);
    }

    /** Acts and undoing by turns, so that the latest 8 lie anywhere; steps are kept beside. */
    private static void ringGoesRound() {
        StepNets x = Check.taken("group c 5;", 5);
        int[] before = new int[400];
        int acts = 0;
        int steps = 0;
        int can = 0;
        for (int turn = 0; turn < 12; turn++) {
            for (int i = 0; i < 3 + turn % 8; i++) {
                before[acts] = steps;
                steps ^= 1 << 1 + (turn + i) % 4;
                x.step(0, 1 + (turn + i) % 4);
                acts++;
                can = Math.min(8, can + 1);
            }
            for (int i = 0; i < 1 + turn * 5 % 9; i++) {
                if (can > 0) {
                    acts--;
                    can--;
                    steps = before[acts];
                    Check.due("undo in turn " + turn, x.undo(), can);
                } else {
                    Check.due("undo in turn " + turn, x.undo(), -5);
                }
            }
            for (int s = 1; s < 5; s++) {
                Check.due("step " + s + " in turn " + turn, x.element(0, s, 2), steps >> s & 1);
            }
        }
    }

    private static void actsOfBothSlots() {
        StepNets x = Check.told("group c 4;", "group c 4;");
        x.step(0, 1);
        for (int i = 0; i < 7; i++) {
            x.step(1, 1);
        }
        Check.due("eight together", x.count(0), 8);
        x.step(1, 2);
        Check.due("still eight", x.count(0), 8);
        for (int i = 7; i >= 0; i--) {
            Check.due("undo", x.undo(), i);
        }
        Check.due("the first act stays", x.element(0, 1, 2), 1);
        Check.due("those of slot 1 are undone", x.size(1, 1), 0);
        x.step(0, 2);
        x.step(1, 3);
        x.quotient(0, 0b0101);
        Check.due("the latest of any slot", x.undo(), 2);
        Check.due("four again", x.size(0, 0), 4);
        Check.due("the latest of any slot", x.undo(), 1);
        Check.due("3 of slot 1 is none", x.element(1, 3, 2), 0);
        Check.due("2 of slot 0 still is one", x.element(0, 2, 2), 1);
    }

    private static void actsThatAreForgotten() {
        String[] taken = {"", " ", "both;", "group c 3;", "steps 1;"};
        for (String text : taken) {
            for (int slot = 0; slot < 2; slot++) {
                StepNets x = Check.told("group c 4;", "group c 4;");
                x.step(0, 1);
                x.step(1, 1);
                Check.holds("taken: " + text, Check.tell(x, slot, text) > 0);
                Check.due("acts of both slots are forgotten", x.count(0), 0);
                Check.due("none can be undone", x.undo(), -5);
                Check.due("what they did stays", x.element(1 - slot, 1, 2), 1);
            }
        }
        StepNets x = Check.told("group c 4;", "group c 4;");
        x.step(0, 1);
        Check.due("a fault", Check.tell(x, 0, "both"), -31);
        Check.due("forgets none", x.count(0), 1);
        Check.due("refused", x.tell(2, 0), -2);
        Check.due("refused", x.tell(0, 1), -3);
        Check.due("forgets none", x.count(0), 1);
        Check.due("undo", x.undo(), 0);
    }
}
