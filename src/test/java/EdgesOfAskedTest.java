/** Boundary cases of promises 21 to 28, and of term 4. */
public final class EdgesOfAskedTest {
    private static final String FIVE = "text l24,99,9,0,0,0;c0;k1,3;p1,4;w1,5;n1,6;m1,7;";

    public static void main(String[] args) {
        numbersOfImages();
        imagesStayAsTheyWere();
        imagesOfOtherLooms();
        numbersOfKinds();
        kindsThatAreOthersToo();
        numbersOfAsks();
        asksWithoutDoubts();
        asksBeyondLimits();
        theTrace();
        counts();
        Check.end();
    }

    private static void numbersOfImages() {
        Edge.run("21: BAD ahead of STATE", "image -1 = BAD", "image 2 = BAD", "image MIN = BAD", "image MAX = BAD",
            "image 0 = STATE", "image 1 = STATE", "restore -1 = BAD", "restore 2 = BAD", "restore 0 = STATE",
            "restore 1 = STATE");
        Edge.run("21: an IMAGE is 0 or 1", FIVE, "image 0 = 1", "image 1 = 1", "image -1 = BAD", "image 2 = BAD",
            "restore 0 = 1", "restore 1 = 1", "restore -1 = BAD", "restore 2 = BAD", "restore MIN = BAD", "restore MAX = BAD");
        Edge.run("22: none was kept", FIVE, "restore 0 = STATE", "restore 1 = STATE", "image 0 = 1", "restore 1 = STATE",
            "restore 0 = 1", FIVE, "image 1 = 1", "restore 1 = 1", "restore 0 = 1");
        Edge.run("22: none was kept, of 1 alone", FIVE, "image 1 = 1", "restore 0 = STATE", "restore 1 = 1");
        Edge.run("22: refused, it stays", FIVE, "act 3 1", "restore 0 = STATE", "restore 2 = BAD", "cloth 0 = 2", "count 6 = 2",
            "undo = 1");
    }

    private static void imagesStayAsTheyWere() {
        Edge.run("21: kept as it was, whatever comes behind", FIVE, "act 3 1", "image 0 = 1", "count 6 = 2", "act 4 2",
            "image 1 = 1", "act 5", "restore 0 = 1", "cloth 0 = 2", "cloth 1 = 3", "cloth 3 = 96", "count 4 = 2", "cloth 5 = 0",
            "suitor 0 4 = 3", "suitor 3 2 = 1", "act 0 2", "restore 1 = 1", "cloth 0 = 4", "count 4 = 3", "suitor 4 2 = 1",
            "restore 0 = 1", "cloth 0 = 2", "suitor 4 2 = 0");
        Edge.run("22: no ACT can be undone then", FIVE, "image 0 = 1", "act 3 1", "count 6 = 2", "restore 0 = 1",
            "count 6 = 0", "undo = STATE", "act 1", "count 6 = 1", "undo = 0", "undo = STATE");
        Edge.run("21: in place of the IMAGE before", FIVE, "image 0 = 1", "act 3", "image 0 = 1", "act 1", "restore 0 = 1",
            "cloth 0 = 3", "cloth 5 = 1");
        Edge.run("21: by NIGHT, BLAMED, and the FEAST before", "text l24,99,9,0,1,2;c0;", "act 1", "image 0 = 1",
            "act 0 4 0 6", "restore 0 = 1", "cloth 4 = 1", "cloth 5 = 1", "act 0 2", "cloth 4 = 1", "restore 0 = 1", "act 0 1",
            "cloth 4 = 2");
        Edge.run("21: WEAR, too", FIVE, "act 6 6 5 5", "image 0 = 1", "act 6", "cloth 2 = 11", "restore 0 = 1", "cloth 2 = 5",
            "cloth 3 = 92");
        Edge.run("21, 22: rows, the tape, the TRACE, FAULT and status are no part of it", FIVE, "image 0 = 1", "row 0 0 3",
            "tape l3", "ask 3 0", "set 1 0 0", "restore 0 = 1", "count 0 = 1", "count 7 = 2", "trace 0 = 13", "status = 1",
            "loom = -1000101", "fault = 2", "restore 0 = 1", "fault = 2");
    }

    private static void imagesOfOtherLooms() {
        Edge.run("22: the LOOM is as an IMAGE kept it", "text l4,9,1,2,3,0;c1,2;k3,4;", "image 0 = 1",
            "text l24,99,9,0,0,9;c0,0,3;n1,1;m2,2; = 2", "image 1 = 1", "restore 0 = 1", "count 1 = 4", "count 2 = 2",
            "count 3 = 1", "kind 0 = 1", "kind 1 = BAD", "suitor 0 0 = 3", "suitor 0 1 = 4", "colour 3 = 2", "colour 4 = BAD",
            "act 3", "unpick 2 = STATE", "act 1 0", "unpick 1 = STATE", "restore 1 = 1", "count 1 = 24", "count 2 = 3",
            "count 3 = 2", "kind 1 = 5", "colour 23 = 3", "colour 24 = BAD", "act 6", "unpick 6 = 0", "suitor 0 2 = 1");
        Edge.run("7: a LOOM that is read leaves the IMAGES", FIVE, "act 2", "image 0 = 1", "text l4,0,0,0,0,0;c0; = 0",
            "restore 0 = 1", "count 3 = 5", "cloth 0 = 2", "text l3 = FAULT 2 at 1", "restore 0 = 1", "cloth 0 = 2");
        Edge.run("20: foretold from the IMAGE on", "text l4,9,9,0,0,0;c0;", "act 1 0", "image 0 = 1", "act 2 0", "restore 0 = 1",
            "holds 1 0 0 = 2", "looks 1 = 4", "looks 2 = NONE", "longest 2 = 200");
    }

    private static void numbersOfKinds() {
        Edge.run("23: the KIND of a SUITOR, as told", "kind 0 = BAD", "text l4,0,0,0,0,0;c0;", "kind 0 = BAD", FIVE, "kind 0 = 1",
            "kind 1 = 2", "kind 2 = 3", "kind 3 = 4", "kind 4 = 5", "kind 5 = BAD", "kind -1 = BAD", "kind MIN = BAD",
            "kind MAX = BAD");
        Edge.run("24: BAD", "as 0 0 = BAD", FIVE, "as -1 0 = BAD", "as 5 0 = BAD", "as 0 -1 = BAD", "as 0 6 = BAD",
            "as MIN 0 = BAD", "as MAX 0 = BAD", "as 0 MIN = BAD", "as 0 MAX = BAD", "as 5 6 = BAD", "as 0 0 = 0", "as 4 5 = 4");
        Edge.run("24: BAD ahead of KIND", "text l4,0,0,0,0,0;c0;k1,1;", "as 1 5 = BAD", "as 0 6 = BAD", "status = 0",
            "as 0 5 = KIND", "status = 3");
    }

    private static void kindsThatAreOthersToo() {
        // By the sorts k p w n m: of which kinds 0 to 5 each is one.
        String[] fits = {"110000", "111000", "110100", "100010", "100011"};
        NightLoom x = Edge.run("24", FIVE);
        for (int suitor = 0; suitor < 5; suitor++) {
            for (int kind = 0; kind <= 5; kind++) {
                boolean is = fits[suitor].charAt(kind) == '1';
                Edge.on(x, "24: KIND: he is no such one", "as " + suitor + " " + kind + " = " + (is ? "" + suitor : "KIND"),
                    "status = " + (is ? 0 : 3), "kind " + suitor + " = " + (suitor + 1));
            }
        }
    }

    private static void numbersOfAsks() {
        Edge.run("25: BAD", "ask 0 0 = BAD", "text l4,0,0,0,0,0;c0;", "ask 0 0 = BAD", FIVE, "ask -1 0 = BAD", "ask 5 0 = BAD",
            "ask 0 -1 = BAD", "ask 0 2 = BAD", "ask MIN 0 = BAD", "ask MAX 0 = BAD", "ask 0 MIN = BAD", "ask 0 MAX = BAD",
            "trace 0 = NONE", "ask 0 1 = 3", "ask 4 1 = 204");
    }

    private static void asksWithoutDoubts() {
        Edge.run("4: nobody DOUBTS", FIVE, "ask 0 0 = 3", "ask 0 1 = 3", "ask 1 0 = -10", "ask 1 1 = 10", "ask 2 0 = -993",
            "ask 2 1 = -993", "ask 3 0 = -100", "ask 3 1 = 103", "ask 4 0 = -200", "ask 4 1 = 204");
    }

    private static void asksBeyondLimits() {
        Edge.run("4: how often one DOUBTS, beyond LIMIT, too", "text l24,99,9,0,0,0;c0;m1,1;n1,1;k9,1;", "act 6 2 2 2 2 2",
            "suitor 0 2 = 3", "suitor 1 2 = 3", "ask 0 0 = -194", "ask 0 1 = 194", "ask 1 0 = -97", "ask 1 1 = 98",
            "ask 2 0 = 3", "ask 2 1 = 3", "undo = 5", "ask 0 0 = -196");
    }

    /** An ASK, by "suitor what", and the numbers that its BODIES leave. */
    private static void dueTrace(NightLoom x, String ask, int... bodies) {
        Edge.on(x, "25", "ask " + ask);
        for (int i = 0; i < bodies.length; i++) {
            Edge.on(x, "26: number " + i + " of ask " + ask, "trace " + i + " = " + bodies[i]);
        }
        for (int i = bodies.length; i <= 17; i++) {
            Edge.on(x, "26: NONE behind ask " + ask, "trace " + i + " = NONE");
        }
    }

    private static void theTrace() {
        NightLoom x = Edge.run("26: NONE", "trace 0 = NONE", "trace -1 = NONE", FIVE, "trace 0 = NONE");
        dueTrace(x, "1 0", 12, 11, 10, 24, 21, 20);
        Edge.on(x, "26: NONE", "trace -1 = NONE", "trace MIN = NONE", "trace MAX = NONE");
        Edge.on(x, "25: a refused ASK leaves THE TRACE", "ask 5 0 = BAD", "ask 0 2 = BAD", "trace 0 = 12", "trace 5 = 20");
        dueTrace(x, "3 0", 13, 10);
        dueTrace(x, "2 0", 11, 10, 22, 21, 20);
        dueTrace(x, "0 0", 11, 10, 21, 20);
        dueTrace(x, "4 0", 14, 13, 10);
        dueTrace(x, "0 1", 21, 20);
        dueTrace(x, "1 1", 24, 21, 20);
        dueTrace(x, "2 1", 22, 21, 20);
        dueTrace(x, "3 1", 23, 20, 13, 10);
        dueTrace(x, "4 1", 23, 20, 14, 13, 10);
    }

    private static void counts() {
        Edge.run("27: what is 0 to 7", "count -1 = BAD", "count 8 = BAD", "count MIN = BAD", "count MAX = BAD", FIVE,
            "count -1 = BAD", "count 8 = BAD", "count 7 = 0");
        Edge.run("27: 0 without a LOOM", "count 1 = 0", "count 2 = 0", "count 3 = 0", "count 4 = 0", "count 5 = 0",
            "count 6 = 0", "text l3 = FAULT 2 at 1", "count 1 = 0", "count 4 = 0",
            "text l4,0,0,0,0,0;c0;k1,1;k1,1;k1,1;k1,1;k1,1;x = FAULT 1 at 41", "count 1 = 0", "count 2 = 0", "count 3 = 0",
            "count 4 = 0");
        NightLoom rows = new NightLoom();
        for (int row = 0; row < 8; row++) {
            Edge.on(rows, "27: how many ROWS, empty ones too", "row " + row + " 0 0", "count 0 = " + (row + 1));
        }
        for (int row = 0; row < 8; row++) {
            Edge.on(rows, "27: how many ROWS", "row " + row + " 1 1", "count 0 = " + (8 - row), "drop " + row,
                "count 0 = " + (7 - row));
        }
        Edge.run("27: who KNOWS, bits", "text l9,9,9,0,0,0;c0;k1,1;k1,2;k1,1;n1,1;m1,1;", "count 5 = 0", "act 2 2", "count 5 = 24",
            "act 0", "count 5 = 29", "act 0 0", "count 5 = 31", "undo = 4", "count 5 = 29");
        Edge.run("27: the DAY", "text l9,9,9,0,0,0;c0;", "count 4 = 1", "act 1", "count 4 = 1", "act 0", "count 4 = 2",
            "undo = 1", "count 4 = 1");
        Edge.run("27: LONG, colours told, SUITORS", "text l24,9,9,0,0,0;c0,1,2,3,0,1,2,3;k1,1;k1,1;k1,1;k1,1;k1,1;",
            "count 1 = 24", "count 2 = 8", "count 3 = 5", "text l4,0,0,0,0,0;c0;", "count 1 = 4", "count 2 = 1", "count 3 = 0");
    }
}
