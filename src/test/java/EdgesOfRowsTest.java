/** Boundary cases of promises 2 to 5, of 28 as far as rows go, and of what term 1 says of ROWS. */
public final class EdgesOfRowsTest {
    /** Nothing hangs, and it is NIGHT: seen(row, i, 1, 0) is 1 if that ITEM is 0, and 0 if it is 1 to 24. */
    private static final String NOTHING_HANGS = "text l24,99,9,0,0,0;c0;";

    public static void main(String[] args) {
        rowsAreMissingAtFirst();
        rowsAreNumbered();
        lanesAreNumbered();
        sizesOfRows();
        rowsInPlaceOfRows();
        placesOfSet();
        lowestBits();
        placesOfCopy();
        emptyCopies();
        copiesAsTheyWereAhead();
        findingsOfCopyInOrder();
        drops();
        statusOfEachCall();
        Check.end();
    }

    private static void rowsAreMissingAtFirst() {
        for (int row = 0; row < 8; row++) {
            Edge.run("1: ROWS are missing at first", "set " + row + " 0 0 = NULL", "drop " + row + " = NULL",
                "copy " + row + " 0 " + row + " 0 0 = NULL", "count 0 = 0", NOTHING_HANGS, "seen " + row + " 0 1 0 = NULL");
        }
    }

    private static void rowsAreNumbered() {
        for (String row : new String[] {"-1", "8", "9", "MIN", "MAX"}) {
            Edge.run("1: ROWS 0 .. 7", "row 0 0 1", "row " + row + " 0 1 = BAD", "set " + row + " 0 1 = BAD",
                "copy " + row + " 0 0 0 1 = BAD", "copy 0 0 " + row + " 0 1 = BAD", "drop " + row + " = BAD",
                NOTHING_HANGS, "seen " + row + " 0 1 0 = BAD", "count 0 = 1", "status = 0");
        }
        NightLoom x = new NightLoom();
        for (int row = 0; row < 8; row++) {
            Edge.on(x, "1: ROWS 0 .. 7", "row " + row + " 2 1 = 1", "set " + row + " 0 " + (row + 1) + " = " + (row + 1),
                "count 0 = " + (row + 1));
        }
        Edge.on(x, "each ROW has ITEMS of its own", "copy 7 0 0 0 1 = 1", "text l24,99,9,0,0,0;c0;", "act 6 0 1",
            "seen 6 0 1 0 = 1", "seen 7 0 1 0 = 0", "act 0 1", "seen 7 0 1 0 = 1", "seen 0 0 1 0 = 1", "seen 6 0 1 0 = 0");
    }

    private static void lanesAreNumbered() {
        Edge.run("1: a LANE 0, 1, 2", "row 0 0 1 = 1", "row 0 1 1 = 1", "row 0 2 1 = 1", "row 0 3 1 = BAD",
            "row 0 -1 1 = BAD", "row 0 MAX 1 = BAD", "row 0 MIN 1 = BAD", "set 0 0 70000 = 70000");
    }

    private static void sizesOfRows() {
        Edge.run("2: n above 40 is BAD", "row 0 0 40 = 40", "set 0 39 1 = 1", "set 0 40 1 = PLACE", "row 1 0 41 = BAD",
            "row 1 0 MAX = BAD", "count 0 = 1", "drop 0 = 40");
        Edge.run("2: fewer than none is SIZE", "row 0 0 0 = 0", "count 0 = 1", "set 0 0 1 = PLACE", "row 1 0 -1 = SIZE",
            "status = 4", "row 1 0 MIN = SIZE", "count 0 = 1", "drop 1 = NULL", "drop 0 = 0", "count 0 = 0");
        Edge.run("2: BAD ahead of SIZE", "row -1 0 -1 = BAD", "row 8 0 -1 = BAD", "row 0 -1 -1 = BAD", "row 0 3 -1 = BAD",
            "status = 0");
        NightLoom x = Edge.run("1: ITEMS are 0 at first", "row 0 0 40", "row 1 1 40", "row 2 2 40", NOTHING_HANGS, "act 0");
        for (int i = 0; i < 40; i++) {
            Edge.on(x, "1: ITEMS are 0 at first", "seen 0 " + i + " 1 0 = 1", "seen 1 " + i + " 1 0 = 1",
                "seen 2 " + i + " 1 0 = 1");
        }
    }

    private static void rowsInPlaceOfRows() {
        Edge.run("2: in place of what is there", "row 0 2 3", "set 0 0 5", "set 0 2 7", "row 0 0 2 = 2", "count 0 = 1",
            "set 0 2 1 = PLACE", "set 0 1 128 = -128", "row 0 2 3 = 3", NOTHING_HANGS, "act 0", "seen 0 0 1 0 = 1",
            "seen 0 1 1 0 = 1", "seen 0 2 1 0 = 1");
        Edge.run("2: refused, it stays as it was", "row 0 2 2", "set 0 1 7", "row 0 3 1 = BAD", "row 0 0 41 = BAD",
            "row 0 0 -1 = SIZE", NOTHING_HANGS, "act 0", "seen 0 0 1 0 = 1", "seen 0 1 1 0 = 0", "set 0 1 999 = 999");
        Edge.run("5: a ROW that was dropped and made again has nothing of before", "row 0 2 2", "set 0 1 7", "drop 0 = 2",
            "row 0 2 2 = 2", NOTHING_HANGS, "act 0", "seen 0 1 1 0 = 1");
    }

    private static void placesOfSet() {
        Edge.run("3: PLACE", "row 0 2 3", "set 0 0 1 = 1", "set 0 2 1 = 1", "set 0 -1 1 = PLACE", "status = 2",
            "set 0 3 1 = PLACE", "set 0 39 1 = PLACE", "set 0 40 1 = PLACE", "set 0 MAX 1 = PLACE", "set 0 MIN 1 = PLACE");
        Edge.run("3: a ROW without ITEMS has no place", "row 0 2 0", "set 0 0 1 = PLACE", "set 0 -1 1 = PLACE");
        Edge.run("3: BAD, then NULL, then PLACE", "set 8 -1 1 = BAD", "set 7 -1 1 = NULL", "row 7 0 1", "set 7 -1 1 = PLACE");
    }

    private static void lowestBits() {
        Edge.run("3: the lowest bits of a byte", "row 0 0 1", "set 0 0 127 = 127", "set 0 0 128 = -128", "set 0 0 -128 = -128",
            "set 0 0 -129 = 127", "set 0 0 255 = -1", "set 0 0 256 = 0", "set 0 0 MAX = -1", "set 0 0 MIN = 0");
        Edge.run("3: the lowest bits of a short", "row 0 1 1", "set 0 0 32767 = 32767", "set 0 0 32768 = -32768",
            "set 0 0 -32768 = -32768", "set 0 0 -32769 = 32767", "set 0 0 65535 = -1", "set 0 0 65536 = 0",
            "set 0 0 MAX = -1", "set 0 0 MIN = 0");
        Edge.run("3: an int has all bits", "row 0 2 1", "set 0 0 MAX = MAX", "set 0 0 MIN = MIN", "set 0 0 65536 = 65536");
        Edge.run("3: it is kept as it is then", "row 0 0 2", "set 0 0 256", "set 0 1 257", NOTHING_HANGS, "act 0",
            "seen 0 0 1 0 = 1", "seen 0 1 1 0 = 0", "act 0 1", "seen 0 1 1 0 = 1");
    }

    private static void placesOfCopy() {
        Edge.run("4: beyond an end of a", "row 0 0 3", "row 1 0 9", "copy 0 0 1 0 3 = 3", "copy 0 0 1 0 4 = PLACE",
            "copy 0 1 1 0 2 = 2", "copy 0 1 1 0 3 = PLACE", "copy 0 2 1 0 1 = 1", "copy 0 3 1 0 1 = PLACE",
            "copy 0 MAX 1 0 1 = PLACE", "copy 0 1 1 0 MAX = PLACE", "copy 0 MAX 1 0 MAX = PLACE");
        Edge.run("4: beyond an end of b", "row 0 0 9", "row 1 0 3", "copy 0 0 1 0 3 = 3", "copy 0 0 1 0 4 = PLACE",
            "copy 0 0 1 1 2 = 2", "copy 0 0 1 1 3 = PLACE", "copy 0 0 1 3 1 = PLACE", "copy 0 0 1 MAX 1 = PLACE",
            "copy 0 0 1 MAX MAX = PLACE");
        Edge.run("4: i, j, n below 0", "row 0 0 3", "copy 0 -1 0 0 1 = PLACE", "copy 0 0 0 -1 1 = PLACE",
            "copy 0 0 0 0 -1 = PLACE", "copy 0 MIN 0 0 1 = PLACE", "copy 0 0 0 MIN 1 = PLACE", "copy 0 0 0 0 MIN = PLACE",
            "copy 0 3 0 3 -1 = PLACE", "copy 0 -1 0 0 MIN = PLACE", "copy 0 -1 0 -1 0 = PLACE", "status = 2");
        Edge.run("4: what is found changes nothing", "row 0 2 3", "set 0 0 1", "copy 0 0 0 1 3 = PLACE",
            "copy 0 0 0 2 2 = PLACE", NOTHING_HANGS, "act 0", "seen 0 1 1 0 = 1", "seen 0 2 1 0 = 1", "seen 0 0 1 0 = 0");
    }

    private static void emptyCopies() {
        Edge.run("4: none, up to an end", "row 0 0 3", "row 1 0 0", "copy 0 0 1 0 0 = 0", "copy 0 3 1 0 0 = 0",
            "copy 1 0 0 3 0 = 0", "copy 1 0 1 0 0 = 0", "copy 0 4 1 0 0 = PLACE", "copy 0 0 1 1 0 = PLACE",
            "copy 1 0 0 4 0 = PLACE", "copy 1 0 1 0 1 = PLACE");
        Edge.run("4: all of 40", "row 0 1 40", "row 1 1 40", "set 0 39 5", "copy 0 0 1 0 40 = 40", NOTHING_HANGS, "act 5",
            "seen 1 39 1 0 = 1", "seen 1 38 1 0 = 0", "copy 0 0 1 0 41 = PLACE");
    }

    /** The ITEMS of a ROW are told apart by what hangs: each is held against 0 to 5. */
    private static void dueItems(NightLoom x, String sentence, int... items) {
        Edge.on(x, sentence, "text l24,99,9,0,0,0;c0;", "act 0");
        for (int hang = 0; hang <= 5; hang++) {
            for (int i = 0; i < items.length; i++) {
                Check.due(sentence + ": whether ITEM " + i + " is " + hang, x.seen(0, i, 1, 0), items[i] == hang ? 1 : 0);
            }
            Check.act(x, 0, 1);
        }
    }

    private static NightLoom oneToFive() {
        return Edge.run("items", "row 0 2 5", "set 0 0 1", "set 0 1 2", "set 0 2 3", "set 0 3 4", "set 0 4 5");
    }

    private static void copiesAsTheyWereAhead() {
        String sentence = "4: as they were ahead";
        NightLoom up = oneToFive();
        Edge.on(up, sentence, "copy 0 0 0 1 4 = 4");
        dueItems(up, sentence, 1, 1, 2, 3, 4);
        NightLoom down = oneToFive();
        Edge.on(down, sentence, "copy 0 1 0 0 4 = 4");
        dueItems(down, sentence, 2, 3, 4, 5, 5);
        NightLoom same = oneToFive();
        Edge.on(same, sentence, "copy 0 0 0 0 5 = 5");
        dueItems(same, sentence, 1, 2, 3, 4, 5);
    }

    private static void findingsOfCopyInOrder() {
        Edge.run("4: BAD, NULL, STORE, PLACE in this order", "copy 8 0 0 0 1 = BAD", "copy 0 0 -1 0 1 = BAD", "row 0 0 1",
            "copy 0 0 1 0 1 = NULL", "copy 1 0 0 0 1 = NULL", "copy 1 -1 1 0 1 = NULL", "status = 1", "row 1 1 1",
            "copy 0 -1 1 0 1 = STORE", "copy 1 0 0 0 9 = STORE", "copy 0 0 1 0 0 = STORE", "status = 5", "row 1 0 1",
            "copy 0 0 1 0 2 = PLACE", "status = 2", "copy 0 0 1 0 1 = 1", "status = 0");
        Edge.run("5 STORE: ROWS of two LANES", "row 0 0 1", "row 1 1 1", "row 2 2 1", "copy 0 0 1 0 1 = STORE",
            "copy 1 0 2 0 1 = STORE", "copy 2 0 0 0 1 = STORE", "copy 0 0 0 0 1 = 1", "copy 1 0 1 0 1 = 1",
            "copy 2 0 2 0 1 = 1");
    }

    private static void drops() {
        Edge.run("5: how many ITEMS it had", "row 0 0 0", "row 7 2 40", "drop 0 = 0", "count 0 = 1", "drop 7 = 40",
            "count 0 = 0", "drop 7 = NULL", "status = 1", "set 7 0 1 = NULL", "row 7 0 3 = 3", "drop 7 = 3");
    }

    private static void statusOfEachCall() {
        Edge.run("28: of the latest call with a ROW that was not refused", "status = 0", "set 0 0 0", "status = 1",
            "row 0 2 2", "status = 0", "set 0 2 0", "status = 2", "set 0 1 0", "status = 0", "copy 0 0 1 0 1",
            "status = 1", "copy 0 0 0 0 1", "status = 0", "copy 0 0 0 0 3", "status = 2", "copy 0 0 0 0 0", "status = 0",
            "drop 1", "status = 1", "drop 0", "status = 0", "row 0 0 -1", "status = 4", "row 0 0 0", "status = 0",
            "row 1 1 0", "copy 0 0 1 0 0", "status = 5", "drop 1", "status = 0");
        Edge.run("28: what is BAD, STATE or FULL leaves it", "row 0 0 -1", "row 8 0 0 = BAD", "row 0 0 41 = BAD",
            "set -1 0 0 = BAD", "copy 0 0 8 0 0 = BAD", "drop 8 = BAD", "seen 0 0 1 0 = STATE", "weave 0 = STATE",
            "as 0 0 = BAD", "status = 4", "text l4,0,0,0,0,0;c0;k1,1;", "seen 0 0 9 0 = BAD", "as 0 6 = BAD",
            "as 1 0 = BAD", "cloth 0 = 0", "act 0", "status = 4", "seen 0 0 1 0 = NULL", "status = 1", "row 0 0 1",
            "seen 0 0 1 0 = 1", "seen 0 1 1 0 = PLACE", "status = 2", "as 0 1 = 0", "status = 0", "as 0 2 = KIND",
            "status = 3", "seen 0 0 1 1 = 0", "status = 0", "as 0 5 = KIND", "seen 0 0 1 2 = 0", "status = 0");
        Edge.run("28: 0 behind a call that answers NONE", "text l9,9,0,0,0,0;c0;", "row 0 0 1", "act 1", "seen 1 0 1 0",
            "status = 1", "seen 0 0 1 1 = NONE", "status = 0", "seen 1 0 1 0", "seen 0 0 1 2 = NONE", "status = 0",
            "seen 1 0 1 0", "seen 0 0 1 0 = 0", "status = 0");
    }
}
