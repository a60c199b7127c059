/** Boundary cases of promises 1, 6 to 8 and 13, and of what term 1 says of TEXTS and FAULTS. */
public final class EdgesOfTextsTest {
    /** Every NUMBER has one figure here, so that each byte is a TOKEN; the places below are those of this text. */
    private static final String PLAIN = "l4,5,6,7,8,9;c0,1;k1,2;p3,4;w5,6;n7,8;m9,1;";
    private static final int COLOURS_END = 18;
    private static final String TOKENS = "0123456789abcdefghijklmnopqrstuvwxyz,;";
    private static final String LAW = "l4,0,0,0,0,0;", ONE_COLOUR = LAW + "c0;", FIVE = ONE_COLOUR + "k1,1;p1,1;w1,1;n1,1;m1,1;";

    public static void main(String[] args) {
        newObjects();
        theTapeIsFull();
        refusedBytesDoNotCome();
        numbersOfTheLaw();
        numbersOfFigures();
        numbersOfColours();
        numbersOfSuitors();
        lettersAndSigns();
        bytesThatAreNoTokens();
        theEnd();
        theFirstTokenThatHasOne();
        everyTokenAtEveryPlace();
        latestFaults();
        loomsInPlaceOfLooms();
        placesOfColours();
        Check.end();
    }

    private static void newObjects() {
        Edge.run("1: no LOOM", "count 0 = 0", "count 1 = 0", "count 2 = 0", "count 3 = 0", "count 4 = 0", "count 5 = 0",
            "count 6 = 0", "count 7 = 0", "fault = 0", "status = 0", "trace 0 = NONE", "undo = STATE", "restore 0 = STATE",
            "restore 1 = STATE", "image 0 = STATE", "cloth 0 = STATE", "colour 0 = BAD", "suitor 0 0 = BAD", "kind 0 = BAD");
    }

    private static void theTapeIsFull() {
        NightLoom x = new NightLoom();
        for (int i = 1; i <= 120; i++) {
            Check.due("6: at most 120 bytes", x.feed('0' + i % 10), i);
        }
        Edge.on(x, "6: BAD ahead of FULL", "feed 48 = FULL", "feed 0 = FULL", "feed 255 = FULL", "feed 256 = BAD",
            "feed -1 = BAD", "count 7 = 120", "loom = -1000100", "count 7 = 0", "fault = 1", "feed 108 = 1", "count 7 = 1");
        NightLoom behind = new NightLoom();
        Edge.feed(behind, PLAIN);
        for (int i = PLAIN.length(); i < 120; i++) {
            behind.feed(' ');
        }
        Edge.on(behind, "6: what FULL refuses is not on the tape", "feed 108 = FULL", "loom = -1000143", "fault = 1",
            "text " + PLAIN + " = 5");
    }

    private static void refusedBytesDoNotCome() {
        Edge.run("6: a byte is 0 to 255", "feed -1 = BAD", "feed 256 = BAD", "feed MIN = BAD", "feed MAX = BAD",
            "feed 364 = BAD", "count 7 = 0", "feed 0 = 1", "feed 255 = 2", "count 7 = 2");
        // 364 is 256 more than l: were only its lowest bits kept, it would be one.
        NightLoom x = Edge.run("6: BAD bytes do not come behind the tape", "feed 364 = BAD");
        for (int i = 0; i < PLAIN.length(); i++) {
            Check.due("feed", x.feed(PLAIN.charAt(i)), i + 1);
            Check.due("BAD between", x.feed(256 + i), NightLoom.BAD);
        }
        Edge.on(x, "7: the tape, empty then", "loom = 5", "count 7 = 0", "loom = -1000100", "fault = 1", "count 3 = 5");
    }

    private static void numbersOfTheLaw() {
        Edge.run("law: 4 to 24 threads", "text l4,0,0,0,0,0;c0; = 0", "count 1 = 4", "text l24,0,0,0,0,0;c0; = 0",
            "count 1 = 24", "text l3,0,0,0,0,0;c0; = FAULT 2 at 1", "text l25,0,0,0,0,0;c0; = FAULT 2 at 1",
            "text l0,0,0,0,0,0;c0; = FAULT 2 at 1", "text l99,0,0,0,0,0;c0; = FAULT 2 at 1", "count 1 = 24");
        Edge.run("law: YARN 0 to 99", "text l4,0,0,0,0,0;c0; = 0", "cloth 3 = 0", "text l4,99,0,0,0,0;c0; = 0", "cloth 3 = 99",
            "text l4,100,0,0,0,0;c0; = FAULT 1 at 3");
        Edge.run("law: TIRED 0 to 9", "text l24,99,9,0,0,0;c0; = 0", "act 6 0 6", "unpick 9 = 3",
            "text l24,99,0,0,0,0;c0; = 0", "act 6", "unpick 1 = STATE", "unpick 0 = 6",
            "text l24,99,10,0,0,0;c0; = FAULT 2 at 7");
        Edge.run("law: MOON 0 to 9", "text l4,0,0,9,0,0;c0; = 0", "text l4,0,0,0,0,0;c0; = 0",
            "text l4,0,0,10,0,0;c0; = FAULT 2 at 7");
        Edge.run("law: FEAST 0 to 9", "text l4,0,0,0,9,0;c0; = 0", "text l4,0,0,0,0,0;c0; = 0",
            "text l4,0,0,0,10,0;c0; = FAULT 2 at 9");
        Edge.run("law: GROWS 0 to 9", "text l4,0,0,0,0,9;c0; = 0", "text l4,0,0,0,0,0;c0; = 0",
            "text l4,0,0,0,0,10;c0; = FAULT 2 at 11");
        Edge.run("the most of each", "text l24,99,09,09,09,09;c03,03,03,03,03,03,03,03;"
            + "k09,09;p09,09;w09,09;n09,09;m09,09; = 5", "count 2 = 8", "colour 23 = 3", "suitor 4 0 = 9", "suitor 4 1 = 9");
    }

    private static void numbersOfFigures() {
        Edge.run("NUMBERS: figures, 2 at most", "text l04,00,00,00,00,00;c00;k01,01; = 1", "count 1 = 4", "suitor 0 0 = 1",
            "text l004,0,0,0,0,0;c0; = FAULT 1 at 1", "text l4,000,0,0,0,0;c0; = FAULT 1 at 3",
            "text l4,0,0,0,0,000;c0; = FAULT 1 at 11", "text " + LAW + "c000; = FAULT 1 at 14",
            "text " + ONE_COLOUR + "k001,1; = FAULT 1 at 17", "text " + ONE_COLOUR + "k1,001; = FAULT 1 at 19",
            "text " + ONE_COLOUR + "k1,1;000 = FAULT 1 at 21", "text 0000 = FAULT 1 at 0");
        Edge.run("NUMBERS: one figure or two, none is no NUMBER", "text l,0,0,0,0,0;c0; = FAULT 1 at 1",
            "text l4,,0,0,0,0;c0; = FAULT 1 at 3", "text " + LAW + "c,0; = FAULT 1 at 14",
            "text " + ONE_COLOUR + "k,1; = FAULT 1 at 17", "text " + ONE_COLOUR + "k1,; = FAULT 1 at 19");
    }

    private static void numbersOfColours() {
        StringBuilder colours = new StringBuilder(LAW).append('c');
        for (int n = 1; n <= 8; n++) {
            colours.append(n == 1 ? "" : ",").append(n % 4);
            Edge.run("colours: 1 to 8 NUMBERS", "text " + colours + "; = 0", "count 2 = " + n);
            Edge.run("colours: 0 to 3 each", "text " + colours + ",4; = FAULT 2 at " + (colours.length() + 1));
        }
        Edge.run("a ninth colour, at its first byte", "text " + colours + ",0; = FAULT 3 at 30",
            "text " + colours + ",3 = FAULT 3 at 30", "text " + colours + ",03,0; = FAULT 3 at 30",
            "text " + colours + ",0x = FAULT 3 at 30");
        Edge.run("of one TOKEN the least", "text " + colours + ",4; = FAULT 2 at 30", "text " + colours + ",99; = FAULT 2 at 30",
            "text " + colours + ",000; = FAULT 1 at 30", "text " + colours + ",; = FAULT 1 at 30",
            "text " + colours + ",k = FAULT 1 at 30", "text " + colours + ", = FAULT 1 at 30",
            "text " + colours + " = FAULT 1 at 29");
        Edge.run("colours: 1 at least, 0 to 3", "text " + LAW + "c; = FAULT 1 at 14", "text " + LAW + "c0; = 0",
            "text " + LAW + "c3; = 0", "text " + LAW + "c4; = FAULT 2 at 14", "text " + LAW + "c04; = FAULT 2 at 14",
            "text " + LAW + "c10; = FAULT 2 at 14", "text " + LAW + "c99; = FAULT 2 at 14");
    }

    private static void numbersOfSuitors() {
        Edge.run("suitor: EVERY 1 to 9", "text " + ONE_COLOUR + "k1,1; = 1", "text " + ONE_COLOUR + "k9,1; = 1",
            "suitor 0 0 = 9", "text " + ONE_COLOUR + "k0,1; = FAULT 2 at 17", "text " + ONE_COLOUR + "k10,1; = FAULT 2 at 17",
            "text " + ONE_COLOUR + "k00,1; = FAULT 2 at 17", "suitor 0 0 = 9");
        Edge.run("suitor: LIMIT 1 to 9", "text " + ONE_COLOUR + "k1,1; = 1", "text " + ONE_COLOUR + "k1,9; = 1",
            "suitor 0 1 = 9", "text " + ONE_COLOUR + "k1,0; = FAULT 2 at 19", "text " + ONE_COLOUR + "k1,10; = FAULT 2 at 19",
            "text " + ONE_COLOUR + "k1,00; = FAULT 2 at 19", "suitor 0 1 = 9");
        String sorts = "kpwnm";
        StringBuilder suitors = new StringBuilder(ONE_COLOUR);
        Edge.run("SUITORS: none is told", "text " + suitors + " = 0", "count 3 = 0", "kind 0 = BAD");
        for (int n = 1; n <= 5; n++) {
            suitors.append(sorts.charAt(5 - n)).append("1,1;");
            Edge.run("SUITORS 0 .. 4, 5 at most", "text " + suitors + " = " + n, "count 3 = " + n,
                "kind " + (n - 1) + " = " + (6 - n), "kind " + n + " = BAD");
        }
        int end = FIVE.length();
        Edge.run("a suitor more than there is room for, at its first byte", "text " + FIVE + "k1,1; = FAULT 3 at " + end,
            "text " + FIVE + "k = FAULT 3 at " + end, "text " + FIVE + "m0,0; = FAULT 3 at " + end,
            "text " + FIVE + "p1,1;x = FAULT 3 at " + end, "text " + FIVE + "w* = FAULT 3 at " + end,
            "text " + FIVE + "n000 = FAULT 3 at " + end);
        Edge.run("1 ahead of 3", "text " + FIVE + "x1,1; = FAULT 1 at " + end, "text " + FIVE + "1 = FAULT 1 at " + end,
            "text " + FIVE + "; = FAULT 1 at " + end, "text " + FIVE + "c = FAULT 1 at " + end,
            "text " + FIVE + "l = FAULT 1 at " + end);
    }

    private static void lettersAndSigns() {
        for (char letter = 'a'; letter <= 'z'; letter++) {
            int sort = "kpwnm".indexOf(letter);
            Edge.run("SORT: k, p, w, n, m", "text " + ONE_COLOUR + letter + "1,1; = " + (sort < 0 ? "FAULT 1 at 16" : "1"));
            Edge.run("law: l", "text " + letter + ONE_COLOUR.substring(1) + " = " + (letter == 'l' ? "0" : "FAULT 1 at 0"));
            Edge.run("colours: c", "text " + LAW + letter + "0; = " + (letter == 'c' ? "0" : "FAULT 1 at 13"));
        }
        Edge.run("each letter by itself", "text ll4,0,0,0,0,0;c0; = FAULT 1 at 1", "text " + LAW + "cc0; = FAULT 1 at 14",
            "text " + ONE_COLOUR + "kk1,1; = FAULT 1 at 17", "text " + ONE_COLOUR + "kp1,1; = FAULT 1 at 17");
        for (int place = 0; place <= PLAIN.length(); place++) {
            String text = PLAIN.substring(0, place) + " " + PLAIN.substring(place);
            Edge.run("no blanks", "text " + text + " = FAULT 1 at " + place);
        }
    }

    /** Bytes that are neither figures nor letters nor SIGNS, those next to them in their order, too. */
    private static void bytesThatAreNoTokens() {
        for (char b = 0; b < 256; b++) {
            if (TOKENS.indexOf(b) >= 0) {
                continue;
            }
            for (int place = 0; place < PLAIN.length(); place++) {
                NightLoom x = fed(PLAIN.substring(0, place) + b + PLAIN.substring(place + 1));
                Check.due("TOKENS: byte " + (int) b + " at " + place, x.loom(), -1000100 - place);
                Check.due("TOKENS: byte " + (int) b + " at " + place, x.fault(), 1);
            }
        }
    }

    private static NightLoom fed(String text) {
        NightLoom x = new NightLoom();
        for (int i = 0; i < text.length(); i++) {
            x.feed(text.charAt(i));
        }
        return x;
    }

    private static void theEnd() {
        for (int length = 0; length <= PLAIN.length(); length++) {
            boolean whole = length >= COLOURS_END && (length - COLOURS_END) % 5 == 0;
            String due = whole ? "" + (length - COLOURS_END) / 5 : "FAULT 1 at " + length;
            Edge.run("the end: how many bytes there are", "text " + PLAIN.substring(0, length) + " = " + due);
        }
    }

    private static void theFirstTokenThatHasOne() {
        Edge.run("FAULTS: the first TOKEN that has one", "text l3x = FAULT 2 at 1", "text l4x3 = FAULT 1 at 2",
            "text l3,100 = FAULT 2 at 1", "text l25 = FAULT 2 at 1", "text l4,0,10 = FAULT 2 at 5",
            "text l4,0,10,10 = FAULT 2 at 5", "text " + LAW + "c4,4,4,4,4,4,4,4,0 = FAULT 2 at 14",
            "text " + FIVE.substring(0, FIVE.length() - 1) + ",k = FAULT 1 at " + (FIVE.length() - 1));
    }

    private static void dueAsModel(String text) {
        Model model = new Model();
        for (int i = 0; i < text.length(); i++) {
            model.call("feed", text.charAt(i));
        }
        NightLoom x = fed(text);
        Check.due("loom of " + text, x.loom(), model.call("loom"));
        Check.due("fault of " + text, x.fault(), model.call("fault"));
    }

    private static void everyTokenAtEveryPlace() {
        String nine = LAW + "c0,1,2,3,0,1,2,3,0;k1,2;";
        for (String text : new String[] {PLAIN + "k1,1;", "l24,99,09,9,0,0;c03,3;m09,1;", nine}) {
            for (int place = 0; place < text.length(); place++) {
                for (char b : TOKENS.toCharArray()) {
                    dueAsModel(text.substring(0, place) + b + text.substring(place + 1));
                    dueAsModel(text.substring(0, place) + b + text.substring(place));
                }
                dueAsModel(text.substring(0, place) + text.substring(place + 1));
            }
        }
    }

    private static void latestFaults() {
        Edge.run("8: the number of the latest FAULT, 0 before one", "fault = 0", "feed 256", "text " + FIVE + " = 5",
            "fault = 0", "act 0", "text l3 = FAULT 2 at 1", "fault = 2", "text " + FIVE + "k = FAULT 3 at 41", "fault = 3",
            "loom = -1000100", "fault = 1", "text " + FIVE + " = 5", "fault = 1");
    }

    private static void loomsInPlaceOfLooms() {
        String busy = "l12,40,9,0,1,2;c0,1;k1,1;n1,1;w1,1;p1,1;";
        String anew = "a LOOM that is read stands in place of the one before";
        NightLoom x = Edge.run(anew, "text " + busy + " = 4", "act 4 3 0 0 2 0", "image 0", "act 1");
        Check.isTrue("there is something to forget", x.cloth(2) > 0 && x.cloth(4) > 0 && x.count(5) > 0);
        Edge.on(x, anew, "text l4,9,9,0,1,1;c3;n1,1;k1,1; = 2", "count 1 = 4", "count 2 = 1", "count 3 = 2", "count 4 = 1",
            "count 5 = 0", "count 6 = 0", "undo = STATE", "cloth 0 = 0", "cloth 1 = 0", "cloth 2 = 0", "cloth 3 = 9",
            "cloth 4 = 0", "cloth 5 = 0", "cloth 6 = 0", "colour 0 = 3", "colour 3 = 3", "colour 4 = BAD", "kind 0 = 4",
            "kind 1 = 1", "kind 2 = BAD", "suitor 0 2 = 0", "suitor 1 2 = 0", "suitor 0 4 = NONE", "suitor 1 4 = NONE");
        Edge.run("nothing is left of one before, however many were read", "text " + FIVE + " = 5", "text " + FIVE + " = 5",
            "text " + ONE_COLOUR + " = 0", "count 3 = 0", "kind 0 = BAD", "text " + LAW + "c0,1,2,3;k1,1; = 1", "count 2 = 4",
            "count 3 = 1", "kind 1 = BAD", "text " + ONE_COLOUR + " = 0", "count 2 = 1", "count 3 = 0");
        Edge.run("nor of a text that had a FAULT", "text " + FIVE + "x = FAULT 1 at 41", "text " + ONE_COLOUR + " = 0",
            "count 3 = 0", "kind 0 = BAD", "text " + FIVE + "x = FAULT 1 at 41", "text " + ONE_COLOUR + " = 0", "count 3 = 0");
        Edge.on(x, "0 hung ahead of the first FEAST, and nobody has looked", "act 1", "cloth 4 = 0", "suitor 1 2 = 0",
            "suitor 1 4 = 1");
        Edge.on(x, "7: a FAULT, all stays", "text l3 = FAULT 2 at 1", "count 1 = 4", "count 6 = 1", "cloth 0 = 1",
            "cloth 5 = 1", "suitor 1 4 = 1", "undo = 0", "cloth 0 = 0", "restore 0 = 1", "count 3 = 4");
        // The text is well up to its last byte: nothing of it may have come to stand.
        Edge.on(x, "7: a FAULT at the end, all stays", "text l5,1,1,1,1,1;c3;m9,9;m9,9;m9,9;m9,9;m9,9;x = FAULT 1 at 41",
            "count 1 = 12", "count 2 = 2", "count 3 = 4", "colour 1 = 1", "kind 0 = 1", "suitor 0 0 = 1", "suitor 0 1 = 1");
    }

    private static void placesOfColours() {
        Edge.run("13: 0 to LONG less 1", "colour 0 = BAD", "text l4,0,0,0,0,0;c1; = 0", "colour 0 = 1", "colour 3 = 1",
            "colour 4 = BAD", "colour -1 = BAD", "colour MIN = BAD", "colour MAX = BAD",
            "text l24,0,0,0,0,0;c0,1,2,3,3,2,1,1; = 0", "colour 7 = 1", "colour 8 = 0", "colour 15 = 1", "colour 16 = 0",
            "colour 23 = 1", "colour 24 = BAD");
        Edge.run("2: round and round", "text l9,0,0,0,0,0;c1,2,3; = 0", "colour 2 = 3", "colour 3 = 1", "colour 8 = 3",
            "colour 9 = BAD");
    }
}
