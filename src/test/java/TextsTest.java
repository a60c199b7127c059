/** Promises 1, 6 to 8, 13, and what a text tells of suitors (14, 23). */
public final class TextsTest {
    private static final String START = "l4,0,0,0,0,0;";
    private static final String PLAIN = START + "c0;";

    public static void main(String[] args) {
        newObjectsHaveNoLoom();
        tapesAreFed();
        faultsOfTheLaw();
        faultsOfManyFigures();
        faultsOfColours();
        faultsOfSuitors();
        loomsStand();
        coloursComeAgain();
        Check.end();
    }

    private static void newObjectsHaveNoLoom() {
        NightLoom x = new NightLoom();
        for (int what = 0; what < 8; what++) {
            Check.due("count " + what, x.count(what), 0);
        }
        Check.due("fault", x.fault(), 0);
        Check.due("status", x.status(), 0);
        Check.due("cloth ahead of BAD", x.cloth(9), NightLoom.STATE);
        Check.due("undo", x.undo(), NightLoom.STATE);
        Check.due("restore", x.restore(1), NightLoom.STATE);
        Check.due("trace", x.trace(0), NightLoom.NONE);
    }

    private static void tapesAreFed() {
        NightLoom x = new NightLoom();
        Check.due("byte -1", x.feed(-1), NightLoom.BAD);
        Check.due("byte 256", x.feed(256), NightLoom.BAD);
        Check.due("byte 255", x.feed(255), 1);
        Check.due("byte 0", x.feed(0), 2);
        for (int i = 2; i < 120; i++) {
            Check.due("byte", x.feed(32), i + 1);
        }
        Check.due("one more", x.feed(32), NightLoom.FULL);
        Check.due("BAD ahead of FULL", x.feed(256), NightLoom.BAD);
        Check.due("count", x.count(7), 120);
        dueFault(x, "", 1, 0);
        Check.due("emptied", x.count(7), 0);
    }

    private static void dueFault(String text, int number, int place) {
        NightLoom x = new NightLoom();
        dueFault(x, text, number, place);
        Check.due("no loom", x.count(4), 0);
    }

    private static void dueFault(NightLoom x, String text, int number, int place) {
        Check.due("loom of " + text, Check.read(x, text), -1000100 - place);
        Check.due("fault of " + text, x.fault(), number);
        Check.due("tape behind " + text, x.count(7), 0);
    }

    private static void faultsOfTheLaw() {
        dueFault("", 1, 0);
        dueFault(" l4", 1, 0);
        dueFault("L4", 1, 0);
        dueFault("4", 1, 0);
        dueFault("c4", 1, 0);
        dueFault("l", 1, 1);
        dueFault("l,", 1, 1);
        dueFault("ll", 1, 1);
        dueFault("l3,", 2, 1);
        dueFault("l3", 2, 1);
        dueFault("l25,", 2, 1);
        dueFault("l24", 1, 3);
        dueFault("l04;", 1, 3);
        dueFault("l4 ,", 1, 2);
        dueFault("l4,99", 1, 5);
        dueFault("l4,9,10,", 2, 5);
        dueFault("l4,9,9,10,", 2, 7);
        dueFault("l4,9,9,9,10,", 2, 9);
        dueFault("l4,9,9,9,9,10,", 2, 11);
        dueFault("l4,9,9,9,9,9,", 1, 12);
        dueFault("l4,9,9,9,9;", 1, 10);
    }

    /** Three figures or more that stand together are one TOKEN that is none: FAULT 1 at the first of them. */
    private static void faultsOfManyFigures() {
        dueFault("l122", 1, 1);
        dueFault("l123,", 1, 1);
        dueFault("l999,", 1, 1);
        dueFault("l004,", 1, 1);
        dueFault("l4,100,", 1, 3);
        dueFault("l4,000,", 1, 3);
        dueFault("l4,99,009,", 1, 6);
        dueFault("l4,9,9,9,9,000;", 1, 11);
        dueFault("123", 1, 0);
        dueFault("l4,9123", 1, 3);
        dueFault("l" + "1".repeat(119), 1, 1);
        dueFault("l" + "0".repeat(118) + "4", 1, 1);
        dueFault("0".repeat(120), 1, 0);
        dueFault(START + "123", 1, 13);
        dueFault(START + "c000;", 1, 14);
        dueFault(START + "c0,001", 1, 16);
        dueFault(START + "c0,0,0,0,0,0,0,0,000", 1, 30);
        dueFault(START + "c0,0,0,0,0,0,0,0,99", 2, 30);
        int at = PLAIN.length();
        dueFault(PLAIN + "123", 1, at);
        dueFault(PLAIN + "k001,1;", 1, at + 1);
        dueFault(PLAIN + "k1,001;", 1, at + 3);
        dueFault(PLAIN + "k1,01;k1,100;", 1, at + 9);
        dueFault("l4,9 123", 1, 4);
        dueFault("l4,9x123", 1, 4);
        NightLoom x = Check.loomOf(Check.FIVE);
        dueFault(x, "l004,0,0,0,0,0;c0;", 1, 1);
        Check.due("all stays", x.count(3), 5);
        Check.due("read behind it", Check.read(x, "l04,00,00,00,00,00;c00;"), 0);
    }

    private static void faultsOfColours() {
        dueFault(START, 1, 13);
        dueFault(START + "k", 1, 13);
        dueFault(START + "c", 1, 14);
        dueFault(START + "c;", 1, 14);
        dueFault(START + "c4;", 2, 14);
        dueFault(START + "c3", 1, 15);
        dueFault(START + "c3k", 1, 15);
        dueFault(START + "c3,;", 1, 16);
        dueFault(START + "c3,03,13", 2, 19);
        dueFault(START + "c0,0,0,0,0,0,0,0", 1, 29);
        dueFault(START + "c0,0,0,0,0,0,0,0,", 1, 30);
        dueFault(START + "c0,0,0,0,0,0,0,0,3", 3, 30);
        dueFault(START + "c0,0,0,0,0,0,0,0,4", 2, 30);
        dueFault(START + "c0,0,0,0,0,0,0,0,;", 1, 30);
    }

    private static void faultsOfSuitors() {
        int at = PLAIN.length();
        dueFault(PLAIN + "x1,1;", 1, at);
        dueFault(PLAIN + "l1,1;", 1, at);
        dueFault(PLAIN + "1", 1, at);
        dueFault(PLAIN + ";", 1, at);
        dueFault(PLAIN + "*", 1, at);
        dueFault(PLAIN + "k", 1, at + 1);
        dueFault(PLAIN + "k0,", 2, at + 1);
        dueFault(PLAIN + "k10,", 2, at + 1);
        dueFault(PLAIN + "k1;", 1, at + 2);
        dueFault(PLAIN + "k1,0", 2, at + 3);
        dueFault(PLAIN + "k1,10", 2, at + 3);
        dueFault(PLAIN + "k1,9", 1, at + 4);
        dueFault(PLAIN + "k1,9,", 1, at + 4);
        String five = PLAIN + "k1,1;p1,1;w1,1;n1,1;m1,1;";
        dueFault(five + "k1,1;", 3, five.length());
        dueFault(five + "k", 3, five.length());
        dueFault(five + "x", 1, five.length());
        dueFault(five + "1", 1, five.length());
    }

    private static void loomsStand() {
        NightLoom x = Check.loomOf(PLAIN);
        Check.due("no suitor", x.count(3), 0);
        Check.due("long", x.count(1), 4);
        Check.due("day", x.count(4), 1);
        Check.due("suitor 0", x.suitor(0, 0), NightLoom.BAD);
        Check.due("five", Check.read(x, Check.FIVE), 5);
        Check.due("suitors", x.count(3), 5);
        Check.due("long", x.count(1), 12);
        Check.due("colours", x.count(2), 6);
        for (int i = 0; i < 5; i++) {
            Check.due("kind", x.kind(i), i + 1);
        }
        int[] every = {1, 2, 1, 3, 2};
        int[] limits = {3, 2, 2, 2, 1};
        for (int i = 0; i < 5; i++) {
            Check.due("every", x.suitor(i, 0), every[i]);
            Check.due("limit", x.suitor(i, 1), limits[i]);
            Check.due("looked", x.suitor(i, 4), NightLoom.NONE);
        }
        Check.act(x, 5, 2, 1);
        dueFault(x, PLAIN + "k9,0", 2, PLAIN.length() + 3);
        Check.due("all stays", x.count(1), 12);
        Check.due("all stays", x.cloth(0), 4);
        Check.due("all stays", x.count(4), 2);
        Check.due("all stays", x.count(6), 3);
        Check.due("all stays", x.suitor(0, 2), 1);
        Check.due("read again", Check.read(x, Check.FIVE), 5);
        Check.due("the fault before", x.fault(), 2);
        Check.due("day 1", x.count(4), 1);
        Check.due("nothing hangs", x.cloth(0), 0);
        Check.due("high", x.cloth(1), 0);
        Check.due("wear", x.cloth(2), 0);
        Check.due("yarn", x.cloth(3), 40);
        Check.due("by day", x.cloth(5), 0);
        Check.due("nobody doubts", x.suitor(0, 2), 0);
        Check.due("nobody has looked", x.suitor(0, 4), NightLoom.NONE);
        Check.due("no act", x.undo(), NightLoom.STATE);
        Check.due("two figures", Check.read(x, "l24,09,09,00,00,03;c00,01;m09,01;"), 1);
        Check.due("yarn", x.cloth(3), 9);
        Check.due("every", x.suitor(0, 0), 9);
    }

    private static void coloursComeAgain() {
        NightLoom x = Check.loomOf("l24,0,0,0,0,0;c3,1,2,0,3,1,2,1;");
        int[] told = {3, 1, 2, 0, 3, 1, 2, 1};
        for (int place = 0; place < 24; place++) {
            Check.due("colour " + place, x.colour(place), told[place % 8]);
        }
        Check.due("colour 24", x.colour(24), NightLoom.BAD);
        Check.due("colour -1", x.colour(-1), NightLoom.BAD);
        Check.due("without a loom", new NightLoom().colour(0), NightLoom.BAD);
    }
}
