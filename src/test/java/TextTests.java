/** Promises 2, 3 and 4: the tape, texts and their faults. */
public final class TextTests {
    public static void main(String[] args) {
        tapeHasRoomForThreeHundred();
        textsThatAreTaken();
        faultsOfWhatCannotStand();
        faultsOfNumbers();
        faultsOfTooMany();
        firstFaultCounts();
        faultChangesNothing();
        refusedTellKeepsTheTape();
        faultTellsOfTheLatest();
        linesOfOneText();
        groupsAsTheyAreTold();
        bytesAboveSevenBits();
        Check.end();
    }

    private static void tapeHasRoomForThreeHundred() {
        StepNets x = new StepNets();
        for (int i = 1; i <= 15; i++) {
            Check.due("feed " + i, x.feed(0, 0, 0, 0, 0), 20 * i);
        }
        Check.due("feed 16", x.feed(0, 0, 0, 0, 0), -4);
        Check.due("count(1)", x.count(1), 300);
        Check.due("tell of none", x.tell(0, 0), 1);
        Check.due("count(1) behind tell", x.count(1), 0);
        Check.due("feed anew", x.feed(1, 2, 3, 4, 5), 20);
        StepNets y = new StepNets();
        StringBuilder long300 = new StringBuilder("group c 2;");
        while (long300.length() < 299) {
            long300.append(' ');
        }
        long300.append('!');
        Check.due("300 bytes, the last one wrong", Check.tell(y, 0, long300.toString()), -31);
        Check.due("its place", y.fault(1), 299);
    }

    private static void textsThatAreTaken() {
        Check.taken("", 1);
        Check.taken("    ", 1);
        Check.taken("group c1;", 1);
        Check.taken("group c 20;", 20);
        Check.taken("group d 10;", 20);
        Check.taken("group d1;", 2);
        Check.taken("group q 5;", 20);
        Check.taken("group q2;", 8);
        Check.taken("group a;", 12);
        Check.taken("group c 05;", 5);
        Check.taken("group c2x c3;", 6);
        Check.taken("   group   c   2   x   c   3   ;   ", 6);
        Check.taken("group a x c 1 x c 1;", 12);
        Check.taken("group c 4 x c 5;", 20);
        Check.taken("group c 2 x c 2 x c 2 x c 2;", 16);
        Check.taken("perms 01;", 1);
        Check.taken("perms 10;", 2);
        Check.taken("perms 10,10,01;", 2);
        Check.taken("perms 12345670;", 8);
        Check.taken("perms 12340 , 13024 ;", 20);
        Check.taken("both;both;both;", 1);
        Check.taken("group c 3;steps 1;steps 2;both;", 3);
        Check.taken("group c 3;steps2 1 2 1;", 3);
        StringBuilder ones = new StringBuilder("group c1");
        while (ones.length() < 290) {
            ones.append("x c1");
        }
        Check.taken(ones.append(';').toString(), 1);
        StringBuilder rows = new StringBuilder("perms 10");
        while (rows.length() < 290) {
            rows.append(",01");
        }
        Check.taken(rows.append(';').toString(), 2);
    }

    private static void faultsOfWhatCannotStand() {
        Check.fault(";", 1, 0);
        Check.fault("  ;", 1, 2);
        Check.fault("group c 3;;", 1, 10);
        Check.fault("group", 1, 5);
        Check.fault("group   ", 1, 8);
        Check.fault("groupc 3;", 1, 0);
        Check.fault("Group c 3;", 1, 0);
        Check.fault("group C 3;", 1, 6);
        Check.fault("group c;", 1, 7);
        Check.fault("group c x c 2;", 1, 8);
        Check.fault("group c 3", 1, 9);
        Check.fault("group c 3 4;", 1, 10);
        Check.fault("group c 3 444;", 1, 10);
        Check.fault("group c 3, c 2;", 1, 9);
        Check.fault("group c 3 x;", 1, 11);
        Check.fault("group c 3 x x c 2;", 1, 12);
        Check.fault("group c3xc2;", 1, 8);
        Check.fault("group cc 3;", 1, 6);
        Check.fault("group a 3;", 1, 8);
        Check.fault("group 3;", 1, 6);
        Check.fault("group;", 1, 5);
        Check.fault("x;", 1, 0);
        Check.fault("3;", 1, 0);
        Check.fault("perms;", 1, 5);
        Check.fault("perms 10,;", 1, 9);
        Check.fault("perms 10 10;", 1, 9);
        Check.fault("perms 10,c;", 1, 9);
        Check.fault("perms x;", 1, 6);
        Check.fault("perms 10 x 10;", 1, 9);
        Check.fault("group c 3; steps;", 1, 16);
        Check.fault("group c 3; steps 1, 2;", 1, 18);
        Check.fault("group c 3; steps 1 both;", 1, 19);
        Check.fault("both 1;", 1, 5);
        Check.fault("both", 1, 4);
        Check.fault("both;group c 2;", 1, 5);
        Check.fault("both;perms 10;", 1, 5);
        Check.fault("group c 2;group c 2;", 1, 10);
        Check.fault("group c 2;perms 10;", 1, 10);
        Check.fault("perms 10;group c 2;", 1, 9);
        Check.fault("perms 10;perms 10;", 1, 9);
        Check.fault("group c 3;steps 1;group c 2;", 1, 18);
        Check.fault("group c 3;steps 1;perms 10;", 1, 18);
        Check.fault("group\tc 3;", 1, 5);
        Check.fault("group c 3;\n", 1, 10);
        Check.fault("group c 3;\0", 1, 10);
    }

    private static void faultsOfNumbers() {
        Check.fault("group c 0;", 2, 8);
        Check.fault("group c 00;", 2, 8);
        Check.fault("group c 21;", 2, 8);
        Check.fault("group c 001;", 2, 8);
        Check.fault("group c 99999999999;", 2, 8);
        Check.fault("group d 0;", 2, 8);
        Check.fault("group d 11;", 2, 8);
        Check.fault("group q 1;", 2, 8);
        Check.fault("group q 6;", 2, 8);
        Check.fault("group c 3 x d 11;", 2, 14);
        Check.fault("group c20x c0", 2, 12);
        Check.fault("steps 1;", 2, 6);
        Check.fault("group c 3;steps 0;", 2, 16);
        Check.fault("group c 3;steps 3;", 2, 16);
        Check.fault("group c 3;steps 1 2 3;", 2, 20);
        Check.fault("group c 3;steps 001;", 2, 16);
        Check.fault("group c 1;steps 1;", 2, 16);
        Check.fault("perms 0;", 2, 6);
        Check.fault("perms 1;", 2, 6);
        Check.fault("perms 1 0", 2, 6);
        Check.fault("perms 00;", 2, 6);
        Check.fault("perms 12;", 2, 6);
        Check.fault("perms 02;", 2, 6);
        Check.fault("perms 012345678;", 2, 6);
        Check.fault("perms 19;", 2, 6);
        Check.fault("perms 10,012;", 2, 9);
        Check.fault("perms 102,01;", 2, 10);
        Check.fault("perms 10,11;", 2, 9);
    }

    private static void faultsOfTooMany() {
        Check.fault("group c 3 x c 7;", 3, 12);
        Check.fault("group c 20 x c 2;", 3, 13);
        Check.fault("group c 2 x a;", 3, 12);
        Check.fault("group a x a;", 3, 10);
        Check.fault("group d 3 x q 2;", 3, 12);
        Check.fault("group c 2 x c 3 x c 4;", 3, 18);
        Check.fault("perms 1230,1023;", 3, 0);
        Check.fault("  perms 1230,1023;", 3, 2);
        Check.fault("perms 12345670,10234567;", 3, 0);
        Check.fault("perms 1234560,0246135;", 3, 0);
    }

    private static void firstFaultCounts() {
        Check.fault("group c 20 x c 2 !", 3, 13);
        Check.fault("group c 2 x a 5", 3, 12);
        Check.fault("group c 5 x c 0;", 2, 14);
        Check.fault("perms 1230,1023", 3, 0);
        Check.fault("perms 1230,1023 x", 3, 0);
        Check.fault("perms 1230,1023,", 1, 16);
        Check.fault("perms 1230,1023,1;", 2, 16);
        Check.fault("group c 3;steps 5 !", 2, 16);
        Check.fault("both;perms 1230,1023;", 1, 5);
        Check.fault("!perms 1230,1023;", 1, 0);
    }

    private static void faultChangesNothing() {
        StepNets x = Check.told("group d 3; steps 1 3;", "group c 4; steps 1;");
        x.step(0, 2);
        x.step(1, 2);
        String first = Check.seen(x, 0);
        String second = Check.seen(x, 1);
        Check.due("a fault behind lines", Check.tell(x, 0, "group c 7;steps 1 2;both;!"), -31);
        Check.due("a fault behind steps", Check.tell(x, 1, "steps 3;both;steps 4;"), -32);
        Check.holds("slot 0 is as it was", first.equals(Check.seen(x, 0)));
        Check.holds("slot 1 is as it was", second.equals(Check.seen(x, 1)));
        Check.due("acts stay", x.count(0), 2);
        Check.due("undo", x.undo(), 1);
        Check.due("undone", x.element(1, 2, 2), 0);
    }

    private static void refusedTellKeepsTheTape() {
        StepNets x = new StepNets();
        Check.feed(x, "group c 7;");
        Check.due("slot 2", x.tell(2, 10), -2);
        Check.due("slot -1", x.tell(-1, 10), -2);
        Check.due("slot ahead of n", x.tell(5, -1), -2);
        Check.due("n -1", x.tell(0, -1), -3);
        Check.due("n 21", x.tell(0, 21), -3);
        Check.due("n most", x.tell(0, Integer.MAX_VALUE), -3);
        Check.due("the tape", x.count(1), 20);
        Check.due("no fault yet", x.fault(0), 0);
        Check.due("no place yet", x.fault(1), -1);
        Check.due("tell", x.tell(0, 10), 7);
        Check.due("the tape is empty", x.count(1), 0);
    }

    private static void faultTellsOfTheLatest() {
        StepNets x = new StepNets();
        Check.due("ahead of any: fault", x.fault(0), 0);
        Check.due("ahead of any: place", x.fault(1), -1);
        Check.due("what 2", x.fault(2), -1);
        Check.due("what -1", x.fault(-1), -1);
        Check.tell(x, 0, "group c 0;");
        Check.due("fault", x.fault(0), 2);
        Check.due("place", x.fault(1), 8);
        Check.due("refused", x.tell(0, 1), -3);
        Check.due("fault stays", x.fault(0), 2);
        Check.due("place stays", x.fault(1), 8);
        Check.due("what 2 with a fault", x.fault(2), -1);
        Check.due("of no byte", x.tell(1, 0), 1);
        Check.due("fault is gone", x.fault(0), 0);
        Check.due("place is gone", x.fault(1), -1);
    }

    private static void linesOfOneText() {
        StepNets x = new StepNets();
        Check.tell(x, 0, "group c 7;steps 1 2;steps 3;");
        Check.due("the later steps alone", x.size(0, 1), 1);
        Check.due("3 is one", x.element(0, 3, 2), 1);
        Check.tell(x, 0, "both;");
        Check.due("both", x.size(0, 1), 2);
        Check.due("4 is one", x.element(0, 4, 2), 1);
        Check.tell(x, 0, "");
        Check.due("steps stay", x.size(0, 1), 2);
        Check.tell(x, 0, "both;steps 1;");
        Check.due("steps behind both", x.size(0, 1), 1);
        Check.tell(x, 0, "group c 7;");
        Check.due("no steps with a group", x.size(0, 1), 0);
        Check.tell(x, 0, "steps 6;");
        Check.tell(x, 0, "perms 1203;");
        Check.due("no steps with perms", x.size(0, 1), 0);
        Check.due("a group behind steps", Check.tell(x, 0, "steps 1;group c 2;"), -31);
        Check.due("its place", x.fault(1), 8);
        Check.due("perms behind steps", Check.tell(x, 0, "steps 1; perms 10;"), -31);
        Check.due("its place", x.fault(1), 9);
        x.step(0, 1);
        Check.due("acts", x.count(0), 1);
        Check.tell(x, 1, "");
        Check.due("a taken text forgets acts", x.count(0), 0);
        Check.due("nothing to undo", x.undo(), -5);
    }

    private static void groupsAsTheyAreTold() {
        for (int n = 1; n <= 20; n++) {
            StepNets x = Check.told("group c " + n + ";", "");
            for (int i = 0; i < n; i++) {
                for (int j = 0; j < n; j++) {
                    Check.due("c " + n, x.product(0, i, j), (i + j) % n);
                }
            }
        }
        for (int n = 1; n <= 10; n++) {
            turnsAndFlips("d " + n, n, 0);
        }
        for (int n = 2; n <= 5; n++) {
            turnsAndFlips("q " + n, 2 * n, n);
        }
        evenOrders();
        products();
    }

    private static void turnsAndFlips(String factor, int turns, int more) {
        StepNets x = Check.told("group " + factor + ";", "");
        Check.due(factor, x.size(0, 0), 2 * turns);
        for (int r = 0; r < turns; r++) {
            for (int s = 0; s < turns; s++) {
                int sum = (r + s) % turns;
                int less = (r - s + turns) % turns;
                Check.due(factor, x.product(0, r, s), sum);
                Check.due(factor, x.product(0, r, turns + s), turns + sum);
                Check.due(factor, x.product(0, turns + r, s), turns + less);
                Check.due(factor, x.product(0, turns + r, turns + s), (less + more) % turns);
            }
        }
    }

    private static void evenOrders() {
        String[] rows = {"0123", "0231", "0312", "1032", "1203", "1320", "2013", "2130", "2301", "3021", "3102", "3210"};
        StepNets x = Check.told("group a;", "");
        for (int i = 0; i < 12; i++) {
            for (int j = 0; j < 12; j++) {
                StringBuilder row = new StringBuilder();
                for (int k = 0; k < 4; k++) {
                    row.append(rows[j].charAt(rows[i].charAt(k) - '0'));
                }
                int want = java.util.Arrays.asList(rows).indexOf(row.toString());
                Check.due("a " + i + " " + j, x.product(0, i, j), want);
            }
        }
    }

    private static void products() {
        StepNets x = Check.told("group d 3 x c 3;", "group c 2 x c 2 x c 5;");
        StepNets d = Check.told("group d 3;", "");
        for (int i = 0; i < 18; i++) {
            for (int j = 0; j < 18; j++) {
                int want = d.product(0, i % 6, j % 6) + 6 * ((i / 6 + j / 6) % 3);
                Check.due("d 3 x c 3", x.product(0, i, j), want);
            }
        }
        for (int i = 0; i < 20; i++) {
            for (int j = 0; j < 20; j++) {
                int want = (i + j) % 2 + 2 * ((i / 2 + j / 2) % 2) + 4 * ((i / 4 + j / 4) % 5);
                Check.due("c 2 x c 2 x c 5", x.product(1, i, j), want);
            }
        }
    }

    private static void bytesAboveSevenBits() {
        Check.fault("group c 3;" + (char) 0xB2, 1, 10);
        Check.fault((char) 0xE7 + "roup c 3;", 1, 0);
        Check.fault("group" + (char) 0xA0 + "c 3;", 1, 5);
    }
}
