/** "What is refused, or found, changes nothing but status()"; "FORETOLD (nothing changes)"; "a FAULT: all stays". */
public final class RefusedTest {
    private static final String[] REFUSED = {
        "row -1 0 1 = BAD", "row 8 0 1 = BAD", "row 0 -1 1 = BAD", "row 0 3 1 = BAD", "row 0 0 41 = BAD", "row 3 0 41 = BAD",
        "set -1 0 1 = BAD", "set 8 0 1 = BAD", "copy -1 0 0 0 1 = BAD", "copy 0 0 8 0 1 = BAD", "drop -1 = BAD", "drop 8 = BAD",
        "feed -1 = BAD", "feed 256 = BAD", "colour -1 = BAD", "colour 24 = BAD", "suitor -1 0 = BAD", "suitor 5 0 = BAD",
        "suitor 0 -1 = BAD", "suitor 0 5 = BAD", "soonest -1 1 1 0 = BAD", "soonest 5 1 1 0 = BAD", "soonest 0 7 1 0 = BAD",
        "soonest 0 1 10 0 = BAD", "soonest 0 1 1 2 = BAD", "image -1 = BAD", "image 2 = BAD", "restore -1 = BAD",
        "restore 2 = BAD", "kind -1 = BAD", "kind 5 = BAD", "as -1 0 = BAD", "as 5 0 = BAD", "as 0 -1 = BAD", "as 0 6 = BAD",
        "ask -1 0 = BAD", "ask 5 0 = BAD", "ask 0 -1 = BAD", "ask 0 2 = BAD", "trace -1 = NONE", "trace 16 = NONE",
        "count -1 = BAD", "count 8 = BAD"};

    /** STATE without a LOOM, BAD with one. */
    private static final String[] BAD_BEHIND_STATE = {
        "weave -1", "weave 7", "unpick -1", "unpick 10", "cloth -1", "cloth 7", "holds 7 0 0", "holds 0 10 0", "holds 0 0 3",
        "holds -1 0 0", "longest -1", "longest 3", "twice -1", "twice 3", "looks -1", "seen 8 0 1 0", "seen 0 0 0 0",
        "seen 0 0 9 0", "seen 0 0 1 3", "seen -1 0 1 0"};

    public static void main(String[] args) {
        refusedByAll();
        refusedWithoutALoom();
        refusedByDay();
        refusedByNight();
        refusedWhenFull();
        refusedWhenDone();
        found();
        foretold();
        lookedAt();
        texts();
        Check.end();
    }

    private static NightLoom rowsAndMore(NightLoom x) {
        Edge.on(x, "story", "row 0 0 4", "set 0 0 1", "set 0 1 2", "set 0 2 3", "set 0 3 6", "row 1 1 3", "set 1 2 5", "row 2 2 0",
            "row 7 2 2", "set 7 0 4", "text l3 = FAULT 2 at 1", "tape l4,");
        return x;
    }

    private static NightLoom anew() {
        return new NightLoom();
    }

    private static NightLoom withoutALoom() {
        NightLoom x = rowsAndMore(new NightLoom());
        Edge.on(x, "story", "row 3 0 -1 = SIZE");
        return x;
    }

    private static NightLoom byDay() {
        NightLoom x = Edge.run("story", "text l12,40,3,4,5,2;c0,1,1,2,0,1;k1,3;p2,2;w1,2;n3,2;m2,1; = 5", "act 4 2", "image 0 = 1",
            "act 3 1 1", "image 1 = 1", "act 3 1 0 2 1", "ask 1 0");
        rowsAndMore(x);
        Edge.on(x, "story", "copy 0 0 7 0 1 = STORE", "cloth 5 = 0");
        return x;
    }

    private static NightLoom byNight() {
        NightLoom x = byDay();
        Edge.on(x, "story", "act 1", "seen 0 0 5 0 = PLACE");
        return x;
    }

    private static NightLoom full() {
        NightLoom x = byDay();
        for (int i = 0; i < 20; i++) {
            Check.act(x, 0);
        }
        for (int i = x.count(7); i < 120; i++) {
            x.feed('7');
        }
        Edge.on(x, "story", "count 6 = 24", "count 7 = 120", "set 5 0 0 = NULL");
        return x;
    }

    private static NightLoom done() {
        NightLoom x = Edge.run("story", "text l4,4,9,2,1,1;c0,1;k1,9;n1,9; = 2", "act 4 0");
        rowsAndMore(x);
        Edge.on(x, "story", "cloth 6 = 1", "cloth 3 = 0");
        return x;
    }

    private static void dueNothing(String when, Twins.Story story, String... calls) {
        for (String call : calls) {
            Twins.changesNothing(when, story, null, call);
        }
    }

    private static void refusedByAll() {
        dueNothing("refused at first", RefusedTest::anew, REFUSED);
        dueNothing("refused without a LOOM", RefusedTest::withoutALoom, REFUSED);
        dueNothing("refused by DAY", RefusedTest::byDay, REFUSED);
        dueNothing("refused by NIGHT", RefusedTest::byNight, REFUSED);
    }

    private static void refusedWithoutALoom() {
        for (String call : BAD_BEHIND_STATE) {
            dueNothing("refused at first", RefusedTest::anew, call + " = STATE");
            dueNothing("refused without a LOOM", RefusedTest::withoutALoom, call + " = STATE");
            dueNothing("refused by DAY", RefusedTest::byDay, call + " = BAD");
            dueNothing("refused by NIGHT", RefusedTest::byNight, call + " = BAD");
        }
        dueNothing("refused without a LOOM", RefusedTest::withoutALoom, "weave 0 = STATE", "unpick 0 = STATE", "undo = STATE",
            "cloth 0 = STATE", "colour 0 = BAD", "suitor 0 0 = BAD", "holds 0 0 0 = STATE", "longest 0 = STATE",
            "soonest 0 0 0 0 = BAD", "twice 0 = STATE", "looks 0 = STATE", "seen 0 0 1 0 = STATE", "image 0 = STATE",
            "restore 0 = STATE", "restore 1 = STATE", "kind 0 = BAD", "as 0 0 = BAD", "ask 0 0 = BAD");
    }

    private static void refusedByDay() {
        dueNothing("refused by DAY", RefusedTest::byDay, "unpick 0 = STATE", "unpick 1 = STATE", "unpick 9 = STATE",
            "colour 12 = BAD");
        Twins.Story twoLeft = () -> {
            NightLoom x = byDay();
            Edge.on(x, "story", "act 4 0 1 0");
            return x;
        };
        dueNothing("refused, as more than LONG would hang", twoLeft, "weave 6 = STATE");
    }

    private static void refusedByNight() {
        dueNothing("refused by NIGHT", RefusedTest::byNight, "weave 0 = STATE", "weave 1 = STATE", "weave 6 = STATE",
            "unpick 4 = STATE", "unpick 9 = STATE");
        Twins.Story fewHang = () -> Edge.run("story", "text l12,40,9,2,5,2;c0;k1,3;n1,9; = 2", "act 2");
        dueNothing("refused, as fewer hang", fewHang, "unpick 3 = STATE", "restore 0 = STATE", "restore 1 = STATE");
        Twins.Story moonless = () -> Edge.run("story", "text l12,40,9,2,5,2;c0;k1,3;n1,9; = 2", "act 2 0 1");
        dueNothing("refused, as it is moonless", moonless, "unpick 1 = STATE", "unpick 3 = STATE");
    }

    private static void refusedWhenFull() {
        dueNothing("refused, as the tape is full", RefusedTest::full, "feed 0 = FULL", "feed 55 = FULL", "feed 255 = FULL",
            "feed 256 = BAD", "weave 7 = BAD", "unpick 10 = BAD");
    }

    private static void refusedWhenDone() {
        dueNothing("refused, as it is DONE", RefusedTest::done, "weave 1 = STATE", "weave 6 = STATE", "weave 7 = BAD");
        Twins.Story noYarn = () -> Edge.run("story", "text l9,4,9,0,1,1;c0,1;k1,9;n1,9; = 2", "act 4 3 3 0");
        dueNothing("refused, as there is no YARN", noYarn, "weave 1 = STATE", "weave 2 = STATE");
        Twins.Story allUndone = () -> Edge.run("story", "text l9,4,9,0,1,1;c0,1;k1,9;n1,9; = 2", "act 4 3", "undo", "undo");
        dueNothing("refused, as no ACT is left", allUndone, "undo = STATE");
    }

    private static void found() {
        Twins.Story[] stories = {RefusedTest::withoutALoom, RefusedTest::byDay, RefusedTest::byNight, RefusedTest::full};
        for (Twins.Story story : stories) {
            Twins.changesNothing("found", story, 4, "row 0 0 -1 = SIZE");
            Twins.changesNothing("found", story, 4, "row 3 2 MIN = SIZE");
            for (String call : new String[] {"set 3 0 1", "copy 3 0 0 0 1", "copy 0 0 3 0 1", "drop 3"}) {
                Twins.changesNothing("found", story, 1, call + " = NULL");
            }
            for (String call : new String[] {"set 0 4 1", "set 0 -1 1", "set 2 0 1", "copy 0 0 0 1 4", "copy 0 1 0 0 4",
                "copy 0 -1 0 0 2", "copy 0 0 0 -1 2", "copy 0 0 0 1 -1", "copy 0 2 0 1 -1"}) {
                Twins.changesNothing("found", story, 2, call + " = PLACE");
            }
            Twins.changesNothing("found", story, 5, "copy 0 0 1 0 1 = STORE");
            Twins.changesNothing("found", story, 5, "copy 7 0 0 0 2 = STORE");
        }
        Twins.Story[] looms = {RefusedTest::byDay, RefusedTest::byNight, RefusedTest::full};
        for (Twins.Story story : looms) {
            Twins.changesNothing("found", story, 3, "as 0 2 = KIND");
            Twins.changesNothing("found", story, 3, "as 4 1 = KIND");
            Twins.changesNothing("found", story, 1, "seen 3 0 1 0 = NULL");
            Twins.changesNothing("found", story, 2, "seen 0 4 1 0 = PLACE");
            Twins.changesNothing("found", story, 2, "seen 0 -1 1 0 = PLACE");
        }
    }

    private static void foretold() {
        Twins.Story[] stories = {RefusedTest::byDay, RefusedTest::byNight, RefusedTest::done};
        for (Twins.Story story : stories) {
            dueNothing("FORETOLD", story, "holds 2 1 0", "holds 1 0 1", "holds 6 9 2", "longest 0", "longest 1", "longest 2",
                "soonest 0 1 1 0", "soonest 1 2 2 1", "twice 0", "twice 1", "twice 2", "looks 0", "looks 2", "looks 24 = NONE");
            Twins.changesNothing("FORETOLD", story, 0, "seen 0 0 3 0");
            Twins.changesNothing("FORETOLD", story, 0, "seen 0 0 3 1");
            Twins.changesNothing("FORETOLD", story, 0, "seen 0 1 2 2");
        }
        Twins.Story beyond = () -> {
            NightLoom x = byDay();
            Edge.on(x, "story", "set 0 1 13", "drop 3 = NULL");
            return x;
        };
        dueNothing("an ITEM not 0 to LONG", beyond, "seen 0 0 2 0 = BAD");
    }

    private static void lookedAt() {
        Twins.Story[] stories = {RefusedTest::withoutALoom, RefusedTest::byDay, RefusedTest::byNight, RefusedTest::done};
        for (Twins.Story story : stories) {
            dueNothing("looked at", story, "cloth 0", "cloth 6", "colour 0", "suitor 0 2", "suitor 1 4", "kind 0", "trace 0",
                "count 5", "count 7", "fault", "status");
        }
        Twins.changesNothing("taken as a COUNTER", RefusedTest::byDay, 0, "as 1 1 = 1");
    }

    /** The twins have an empty tape and the same FAULT behind them, so that nothing at all may differ. */
    private static void texts() {
        for (String fault : new String[] {"l3 = FAULT 2 at 1", "l4,0,0,0,0,10;c0; = FAULT 2 at 11",
            "l9,9,9,9,9,9;c3,3,3,4; = FAULT 2 at 20", "l9,9,9,9,9,9;c3;m9,9;m9,9;m9,9;m9,9;m9,10; = FAULT 2 at 39"}) {
            Twins.Story story = () -> {
                NightLoom x = byDay();
                Edge.on(x, "story", "loom = -1000103", "text l3 = FAULT 2 at 1");
                return x;
            };
            Twins.changesNothing("a FAULT, all stays", story, null, "text " + fault);
        }
    }
}
