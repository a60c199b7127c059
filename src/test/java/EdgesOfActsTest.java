/** Boundary cases of promises 9 to 12 and 14, and of term 2. */
public final class EdgesOfActsTest {
    public static void main(String[] args) {
        threadsToWeave();
        weavingIsRefusedInOrder();
        roomTillLong();
        yarnForTheLastThread();
        wearByFours();
        threadsToUndo();
        unpickingIsRefusedInOrder();
        tiredMoonAndWhatHangs();
        theLastDay();
        whoLooksOnWhichDay();
        thoseWhoCount();
        thoseWhoWait();
        painters();
        candlesAndMaids();
        limits();
        feasts();
        actsKept();
        actsInTurn();
        whatOfTheCloth();
        whatOfSuitors();
        Check.end();
    }

    private static void threadsToWeave() {
        Edge.run("9: n threads, 0 to 6", "text l24,99,9,0,0,0;c0;", "weave -1 = BAD", "weave 7 = BAD", "weave MIN = BAD",
            "weave MAX = BAD", "cloth 5 = 0", "weave 0 = 0", "cloth 5 = 1", "act 0", "weave 6 = 6", "cloth 5 = 1");
    }

    private static void weavingIsRefusedInOrder() {
        Edge.run("9: no LOOM ahead of BAD", "weave -1 = STATE", "weave 0 = STATE", "weave 7 = STATE");
        Edge.run("9: BAD ahead of STATE", "text l4,0,0,0,0,0;c0;", "act 0", "weave 7 = BAD", "weave -1 = BAD",
            "weave 0 = STATE", "weave 6 = STATE");
        Edge.run("9: by NIGHT", "text l24,99,9,0,0,0;c0;", "act 1", "weave 0 = STATE", "weave 1 = STATE", "cloth 0 = 1",
            "count 6 = 1", "act 0", "weave 1 = 2");
    }

    private static void roomTillLong() {
        Edge.run("9: more than LONG would hang", "text l4,99,9,0,0,0;c0;", "weave 5 = STATE", "weave 6 = STATE", "cloth 0 = 0",
            "cloth 5 = 0", "cloth 3 = 99", "count 6 = 0", "weave 4 = 4", "cloth 6 = 1", "act 0", "weave 1 = STATE",
            "weave 0 = 4", "act 1", "weave 2 = STATE", "weave 1 = 4");
        Edge.run("9: 24 threads at most", "text l24,99,9,0,0,0;c0;", "act 6 0 6 0 6 0 5 0", "weave 2 = STATE", "cloth 6 = 0",
            "weave 1 = 24", "cloth 6 = 1", "cloth 1 = 24", "cloth 3 = 75");
    }

    private static void yarnForTheLastThread() {
        Edge.run("9: there is not so much YARN", "text l24,5,9,0,0,0;c0;", "weave 6 = STATE", "cloth 3 = 5", "cloth 1 = 0",
            "weave 5 = 5", "cloth 3 = 0", "act 0", "weave 1 = STATE", "weave 0 = 5");
        Edge.run("9: no YARN at all", "text l24,0,9,0,0,0;c0;", "weave 1 = STATE", "weave 0 = 0", "cloth 3 = 0");
        Edge.run("2: another one takes none, till 4 divides WEAR", "text l24,3,9,0,0,0;c0;", "act 3 3", "weave 4 = STATE",
            "cloth 2 = 0", "weave 3 = 3", "cloth 2 = 3", "cloth 3 = 0", "act 1", "weave 1 = STATE", "weave 0 = 2");
        Edge.run("2: and 1 then", "text l24,4,9,0,0,0;c0;", "act 3 3 3 3", "weave 2 = 2", "cloth 2 = 5", "cloth 3 = 0");
        // One is worn, the fourth, and one is at HIGH: two of yarn for two threads.
        Edge.run("2: some below HIGH and some beyond it", "text l24,6,9,0,0,0;c0;", "act 4 3 3 1", "cloth 2 = 3", "cloth 3 = 2",
            "weave 3 = STATE", "weave 2 = 5", "cloth 1 = 5", "cloth 2 = 4", "cloth 3 = 0");
    }

    private static void wearByFours() {
        Edge.run("2: WEAR 4, 8, 12 take 1 each", "text l24,99,9,0,0,0;c0;", "act 6 6", "cloth 1 = 6", "cloth 2 = 0",
            "cloth 3 = 93", "act 3 3", "cloth 2 = 3", "cloth 3 = 93", "act 1 1", "cloth 2 = 4", "cloth 3 = 92", "act 3 3",
            "cloth 2 = 7", "cloth 3 = 92", "act 6 6", "cloth 2 = 13", "cloth 3 = 90", "cloth 1 = 6");
        Edge.run("2: a place that is HIGH", "text l24,99,9,0,0,0;c0;", "act 3 1", "weave 1 = 3", "cloth 1 = 3", "cloth 2 = 1",
            "cloth 3 = 96", "act 0", "weave 1 = 4", "cloth 1 = 4", "cloth 2 = 1", "cloth 3 = 95");
    }

    private static void threadsToUndo() {
        Edge.run("10: n threads, 0 to 9", "text l24,99,9,0,0,0;c0;", "act 6 0 6", "unpick -1 = BAD", "unpick 10 = BAD",
            "unpick MIN = BAD", "unpick MAX = BAD", "cloth 5 = 1", "count 4 = 2", "unpick 9 = 3", "count 4 = 3", "act 0",
            "unpick 0 = 3", "count 4 = 4");
    }

    private static void unpickingIsRefusedInOrder() {
        Edge.run("10: no LOOM ahead of BAD", "unpick -1 = STATE", "unpick 0 = STATE", "unpick 10 = STATE");
        Edge.run("10: BAD ahead of STATE", "text l4,0,0,0,0,0;c0;", "unpick -1 = BAD", "unpick 10 = BAD", "unpick 0 = STATE",
            "unpick 9 = STATE");
        Edge.run("10: by DAY", "text l24,99,9,0,0,0;c0;", "unpick 0 = STATE", "act 6 0", "unpick 0 = STATE",
            "unpick 1 = STATE", "cloth 0 = 6", "count 4 = 2", "count 6 = 2");
    }

    private static void tiredMoonAndWhatHangs() {
        Edge.run("10: TIRED at most", "text l24,99,3,0,0,0;c0;", "act 6", "unpick 4 = STATE", "unpick 9 = STATE", "cloth 0 = 6",
            "cloth 5 = 1", "unpick 3 = 3");
        Edge.run("10: TIRED 0", "text l24,99,0,0,0,0;c0;", "act 6", "unpick 1 = STATE", "unpick 0 = 6");
        Edge.run("10: fewer hang", "text l24,99,9,0,0,0;c0;", "act 4", "unpick 5 = STATE", "unpick 9 = STATE", "cloth 0 = 4",
            "unpick 4 = 0", "act 0", "unpick 1 = STATE", "unpick 0 = 0");
        Edge.run("10: MOON divides the DAY", "text l24,99,9,3,0,0;c0;", "act 6", "unpick 1 = 5", "act 0", "unpick 1 = 4",
            "act 0", "unpick 1 = STATE", "count 4 = 3", "cloth 5 = 1", "unpick 0 = 4", "act 0", "unpick 1 = 3", "act 0 0 0",
            "unpick 1 = STATE", "unpick 0 = 3");
        Edge.run("10: MOON 1 is every NIGHT", "text l24,99,9,1,0,0;c0;", "act 6", "unpick 1 = STATE", "unpick 0 = 6", "act 0",
            "unpick 1 = STATE", "unpick 0 = 6");
        Edge.run("10: MOON 0 is no NIGHT", "text l24,99,9,0,0,0;c0;", "act 6 1 0 1 0 1 0 1 0 1 0 1", "cloth 0 = 0");
        NightLoom x = Edge.run("10: MOON 9", "text l24,99,9,9,0,0;c0;", "act 6 1 0 1 0 1 0 0 0 0 0 0 0 0 0 1 0");
        Edge.on(x, "10: MOON 9", "count 4 = 9", "unpick 1 = STATE", "unpick 0 = 2", "act 0", "unpick 1 = 1");
    }

    private static void theLastDay() {
        // No run that is promised comes so far; the sentence is held all the same.
        NightLoom x = Edge.run("10: FULL", "text l24,99,3,0,0,0;c0;", "act 6 0");
        for (int day = 2; day < 998; day++) {
            Check.act(x, 0, 0);
        }
        Edge.on(x, "10: FULL: it is DAY 999", "count 4 = 998", "act 0", "unpick 3 = 3", "count 4 = 999", "weave 2 = 5",
            "unpick 10 = BAD", "unpick 4 = STATE", "unpick 0 = FULL", "unpick 3 = FULL", "count 4 = 999", "cloth 5 = 1",
            "cloth 0 = 5", "count 6 = 24", "undo = 23", "undo = 22", "count 4 = 998", "cloth 5 = 1");
    }

    private static void whoLooksOnWhichDay() {
        NightLoom x = Edge.run("2: EVERY divides the DAY", "text l24,99,9,0,0,0;c0;k1,9;k2,9;k9,9;w3,9;p4,9;");
        for (int day = 1; day <= 18; day++) {
            Check.act(x, 1);
            String[] rows = new String[5];
            int[] every = {1, 2, 9, 3, 4};
            for (int i = 0; i < 5; i++) {
                int looked = day / every[i] * every[i];
                rows[i] = "suitor " + i + " 4 = " + (looked == 0 ? "NONE" : "" + looked);
            }
            Edge.on(x, "14: how many hung when he looked last, day " + day, rows);
            Check.act(x, 0);
        }
        Edge.run("14: NONE, he did not; 0, nothing hung", "text l24,99,9,0,0,0;c0;k1,9;w1,9;p1,9;n1,9;m1,9;",
            "suitor 0 4 = NONE", "act 0", "suitor 0 4 = 0", "suitor 1 4 = 0", "suitor 2 4 = 0", "suitor 3 4 = NONE",
            "suitor 4 4 = NONE", "act 0 3 2", "suitor 0 4 = 3", "suitor 3 4 = NONE", "suitor 4 4 = NONE");
    }

    private static void thoseWhoCount() {
        Edge.run("2: if he has looked before", "text l24,99,9,0,0,0;c0;k1,9;", "act 0", "suitor 0 2 = 0", "act 0 0",
            "suitor 0 2 = 1");
        Edge.run("2: no more threads hang than then", "text l24,99,9,0,0,0;c0;k1,9;", "act 3 1 2", "suitor 0 2 = 0",
            "act 2 2", "suitor 0 2 = 1", "act 2 1", "suitor 0 2 = 2", "act 0 1", "suitor 0 2 = 2", "act 4 0",
            "suitor 0 2 = 3", "act 0 0", "suitor 0 2 = 4");
        Edge.run("2: held against the EVENING in which he looked, no other", "text l24,99,9,0,0,0;c0;k2,9;", "act 6 6",
            "act 1 0", "suitor 0 2 = 0", "suitor 0 4 = 1", "act 6 6 1", "suitor 0 2 = 0", "suitor 0 4 = 2", "act 0 6 6 2",
            "suitor 0 2 = 0", "suitor 0 4 = 4");
    }

    private static void thoseWhoWait() {
        Edge.run("2: one who waits, if fewer hang than then", "text l24,99,9,0,0,0;c0;w1,9;", "act 3 0 0", "suitor 0 2 = 0",
            "act 1 1", "suitor 0 2 = 0", "act 1 0", "suitor 0 2 = 1", "act 0 0", "suitor 0 2 = 1", "act 2 0", "suitor 0 2 = 2",
            "suitor 0 4 = 0");
        Edge.run("2: nobody has looked, and nothing hangs", "text l24,99,9,0,0,0;c0;w1,9;w2,9;", "act 0 0 0",
            "suitor 0 2 = 0", "suitor 1 2 = 0");
    }

    private static void painters() {
        Edge.run("2: two threads or more hung then, and hang now", "text l24,99,9,0,0,0;c0;p1,9;", "act 2", "suitor 0 2 = 0",
            "act 1 0", "suitor 0 2 = 0", "act 0 0", "suitor 0 2 = 0", "act 0 1", "suitor 0 2 = 0", "act 0 0", "suitor 0 2 = 1",
            "act 0 1", "suitor 0 2 = 2", "act 1 0", "suitor 0 2 = 3", "act 2 0", "suitor 0 2 = 3", "act 0 2", "suitor 0 2 = 3");
        Edge.run("2: the last two, in order", "text l24,99,9,0,0,0;c0,1,1,0;p1,9;", "act 2 0 2", "suitor 0 2 = 0",
            "act 0 4", "suitor 0 2 = 1", "act 2 0", "suitor 0 2 = 1", "act 4 0", "suitor 0 2 = 2");
        Edge.run("2: both of the last two", "text l24,99,9,0,0,0;c0,1,1,1,0;p1,9;", "act 2 0 1", "suitor 0 2 = 0",
            "act 0 1", "suitor 0 2 = 1", "act 0 1", "suitor 0 2 = 1", "act 0 1", "suitor 0 2 = 1");
        Edge.run("2: as they were when he looked", "text l24,99,9,0,0,0;c0,1,2,3;p3,9;", "act 1 0 1 0 2 0", "suitor 0 4 = 4",
            "act 2 0 1 0 1 0", "suitor 0 4 = 8", "suitor 0 2 = 1");
    }

    private static void candlesAndMaids() {
        String loom = "text l24,99,9,4,0,0;c0;n1,9;m1,9;n2,9;m2,9;";
        Edge.run("2: one with a candle, if some were; a maid, if 2 or more", loom, "act 6 0", "suitor 0 2 = 0",
            "suitor 1 2 = 0", "act 0 1", "suitor 0 2 = 1", "suitor 1 2 = 0", "suitor 2 2 = 1", "suitor 3 2 = 0", "act 0 2",
            "suitor 0 2 = 2", "suitor 1 2 = 1", "suitor 2 2 = 1", "suitor 3 2 = 0", "act 6 0", "suitor 0 2 = 2",
            "suitor 2 2 = 1", "act 0 9", "suitor 0 2 = 3", "suitor 1 2 = 2", "suitor 2 2 = 1", "act 2 2", "suitor 0 2 = 4",
            "suitor 1 2 = 3", "suitor 2 2 = 2", "suitor 3 2 = 1");
        Edge.run("2: by NIGHT nobody else doubts", "text l24,99,9,0,0,0;c0;k1,9;p1,9;w1,9;", "act 6 0 4 9", "suitor 0 2 = 0",
            "suitor 1 2 = 1", "suitor 2 2 = 0");
        Edge.run("2: in the EVENING neither of them doubts", "text l24,99,9,0,0,0;c0;n1,9;m1,9;", "act 6 0 0 0 0",
            "suitor 0 2 = 0", "suitor 1 2 = 0");
        // It is DAY 2 that is looked at by night, and not the DAY behind it.
        Edge.run("2: EVERY divides the DAY of that NIGHT", "text l24,99,9,0,0,0;c0;n2,9;n3,9;", "act 6 0 0 1",
            "suitor 0 2 = 1", "suitor 1 2 = 0", "act 0 1", "suitor 0 2 = 1", "suitor 1 2 = 1");
    }

    private static void limits() {
        Edge.run("2: KNOWS who DOUBTS as often as LIMIT, or more", "text l24,99,9,0,0,0;c0;n1,2;n1,1;n1,9;n1,3;m1,1;", "act 6",
            "count 5 = 0", "act 1", "suitor 0 3 = 0", "suitor 1 3 = 1", "count 5 = 2", "act 0 1", "suitor 0 3 = 1",
            "suitor 3 3 = 0", "count 5 = 3", "act 0 1", "suitor 0 3 = 1", "suitor 1 3 = 1", "suitor 3 3 = 1", "count 5 = 11",
            "act 0 2", "suitor 4 3 = 1", "count 5 = 27", "suitor 2 3 = 0");
        NightLoom x = Edge.run("2: LIMIT 9", "text l24,99,9,0,0,0;c0;k1,9;", "act 0");
        for (int doubts = 1; doubts <= 10; doubts++) {
            Check.act(x, 0, 0);
            Edge.on(x, "2: LIMIT 9", "suitor 0 2 = " + doubts, "suitor 0 3 = " + (doubts < 9 ? 0 : 1));
        }
    }

    private static void feasts() {
        Edge.run("2: FEAST 0 is none", "text l24,99,9,0,0,9;c0;", "act 0 0 0 0 0", "cloth 4 = 0");
        Edge.run("2: FEAST divides the DAY", "text l24,99,9,0,3,9;c0;", "act 0 0 0", "cloth 4 = 0", "act 0 0", "cloth 4 = 1",
            "act 0 0 0 0", "cloth 4 = 1", "act 0 0", "cloth 4 = 2");
        Edge.run("2: if not GROWS more hang than at the FEAST before", "text l24,99,9,0,1,3;c0;", "act 3", "cloth 4 = 0",
            "act 0 3", "cloth 4 = 0", "act 0 2", "cloth 4 = 1", "act 0 3", "cloth 4 = 1", "act 0 4", "cloth 4 = 1", "act 4 6",
            "cloth 4 = 2", "act 0 3", "cloth 4 = 2");
        Edge.run("2: 0 ahead of the first", "text l24,99,9,0,2,6;c0;", "act 1 0 5", "cloth 4 = 0",
            "text l24,99,9,0,2,6;c0;", "act 1 0 4", "cloth 4 = 1");
        Edge.run("2: GROWS 0", "text l24,99,9,0,1,0;c0;", "act 0", "cloth 4 = 0", "act 0 2 0 0", "cloth 4 = 0", "act 1 0",
            "cloth 4 = 1");
        Edge.run("2: GROWS 9, FEAST 9", "text l24,99,9,0,9,9;c0;", "act 6 0 2 0 0 0 0 0 0 0 0 0 0 0 0 0 1", "count 4 = 9",
            "cloth 4 = 0", "text l24,99,9,0,9,9;c0;", "act 6 0 2 0 0 0 0 0 0 0 0 0 0 0 0 0 0", "cloth 4 = 1");
    }

    private static void actsKept() {
        Edge.run("11: STATE: none", "undo = STATE", "text l24,99,9,0,0,0;c0;", "undo = STATE", "count 6 = 0", "act 1",
            "undo = 0", "undo = STATE", "cloth 5 = 0", "cloth 0 = 0", "count 4 = 1");
        for (int acts = 22; acts <= 26; acts++) {
            NightLoom x = Edge.run("24 ACTS at most are kept", "text l24,99,9,0,0,0;c0;");
            for (int i = 0; i < acts; i++) {
                Check.act(x, i % 2 == 0 ? 1 : 0);
            }
            int kept = Math.min(acts, 24);
            Edge.on(x, acts + " ACTS", "count 6 = " + kept);
            for (int left = kept - 1; left >= 0; left--) {
                Edge.on(x, acts + " ACTS", "undo = " + left, "count 6 = " + left);
            }
            int gone = acts - kept;
            Edge.on(x, "of more the oldest is forgotten", "undo = STATE", "cloth 0 = " + (gone + 1) / 2,
                "cloth 5 = " + gone % 2, "count 4 = " + (1 + gone / 2));
        }
    }

    private static void actsInTurn() {
        NightLoom x = Edge.run("11: each can be undone, the latest first", "text l24,99,9,0,0,0;c0;");
        for (int i = 0; i < 30; i++) {
            Check.act(x, i % 2 == 0 ? 2 : 1);
        }
        Edge.on(x, "30 ACTS", "count 6 = 24", "cloth 0 = 15");
        for (int left = 23; left >= 14; left--) {
            Edge.on(x, "ten of them are undone", "undo = " + left);
        }
        Edge.on(x, "ten of them are undone", "cloth 0 = 10", "count 4 = 11");
        for (int i = 0; i < 12; i++) {
            Check.act(x, i % 2 == 0 ? 1 : 0);
        }
        Edge.on(x, "12 ACTS more", "count 6 = 24", "cloth 0 = 16");
        for (int left = 23; left >= 0; left--) {
            Edge.on(x, "all", "undo = " + left);
        }
        Edge.on(x, "as behind the first 8", "undo = STATE", "cloth 0 = 4", "count 4 = 5", "cloth 5 = 0");
        Edge.run("ACTS of none, too", "text l24,99,9,0,0,0;c0;", "act 0 0", "count 6 = 2", "undo = 1", "cloth 5 = 1",
            "count 4 = 1", "undo = 0", "cloth 5 = 0", "count 4 = 1");
        Edge.run("refused ones are none", "text l24,0,9,0,0,0;c0;", "weave 1 = STATE", "weave 7 = BAD", "unpick 0 = STATE",
            "count 6 = 0", "act 0", "unpick 1 = STATE", "weave 0 = STATE", "count 6 = 1");
        Edge.run("11: all of it is undone", "text l24,99,9,0,2,9;c0;k1,1;n1,1;w1,1;", "act 4 4 0", "undo = 2", "suitor 0 2 = 0",
            "suitor 0 4 = 4", "suitor 2 2 = 0", "cloth 4 = 0", "undo = 1", "suitor 1 2 = 0", "count 5 = 0", "cloth 0 = 4",
            "act 0 6", "cloth 1 = 10", "cloth 3 = 89", "undo = 2", "cloth 1 = 4", "cloth 3 = 95", "act 5", "cloth 4 = 0");
        Edge.run("11: WEAR, too", "text l24,99,9,0,0,0;c0;", "act 6 6 5", "cloth 2 = 5", "cloth 3 = 92", "undo = 2",
            "cloth 2 = 0", "cloth 3 = 93");
    }

    private static void whatOfTheCloth() {
        Edge.run("12: no LOOM ahead of BAD", "cloth -1 = STATE", "cloth 0 = STATE", "cloth 6 = STATE", "cloth 7 = STATE");
        Edge.run("12: what is 0 to 6", "text l4,9,9,0,0,0;c0;", "cloth -1 = BAD", "cloth 7 = BAD", "cloth MIN = BAD",
            "cloth MAX = BAD", "cloth 0 = 0", "cloth 6 = 0");
        Edge.run("2: it is DONE, if LONG hang", "text l4,9,9,0,0,0;c0;", "act 3", "cloth 6 = 0", "act 0 1", "cloth 6 = 1",
            "cloth 5 = 1", "act 0", "cloth 6 = 1", "cloth 5 = 0", "act 0 1", "cloth 6 = 0");
        Edge.run("2: HIGH: how many hung at most so far", "text l24,99,9,0,0,0;c0;", "cloth 1 = 0", "act 3 3", "cloth 1 = 3",
            "act 3 0", "cloth 1 = 3", "act 1 4", "cloth 1 = 4", "cloth 0 = 0");
    }

    private static void whatOfSuitors() {
        Edge.run("14: no such SUITOR", "suitor 0 0 = BAD", "text l4,9,9,0,0,0;c0;", "suitor 0 0 = BAD", "suitor -1 0 = BAD",
            "text l4,9,9,0,0,0;c0;k1,2;m3,4;", "suitor 0 0 = 1", "suitor 1 1 = 4", "suitor 2 0 = BAD", "suitor -1 0 = BAD",
            "suitor 4 0 = BAD", "suitor 5 0 = BAD", "suitor MIN 0 = BAD", "suitor MAX 0 = BAD");
        Edge.run("14: what is 0 to 4", "text l4,9,9,0,0,0;c0;k1,2;m3,4;k1,1;k1,1;n9,9;", "suitor 4 0 = 9", "suitor 4 4 = NONE",
            "suitor 4 5 = BAD", "suitor 4 -1 = BAD", "suitor 4 MIN = BAD", "suitor 4 MAX = BAD", "suitor 5 0 = BAD");
    }
}
