/** Promises 23 to 28: kinds, asks, the trace, counts, and the status of as(). */
public final class AskedTest {
    public static void main(String[] args) {
        suitorsAreOfKinds();
        suitorsAreAsked();
        askingIsRefused();
        thingsAreCounted();
        Check.end();
    }

    private static void suitorsAreOfKinds() {
        NightLoom x = Check.loomOf(Check.LAW + "m1,1;n1,1;w1,1;p1,1;k1,1;");
        int[] kinds = {5, 4, 3, 2, 1};
        // Which kinds each is, as bits: a suitor always, his own, and what that one is.
        int[] taken = {0b110001, 0b010001, 0b001011, 0b000111, 0b000011};
        for (int suitor = 0; suitor < 5; suitor++) {
            Check.due("kind", x.kind(suitor), kinds[suitor]);
            for (int kind = 0; kind < 6; kind++) {
                boolean fits = (taken[suitor] >> kind & 1) == 1;
                Check.due(suitor + " as " + kind, x.as(suitor, kind), fits ? suitor : Check.KIND);
                Check.due("status", x.status(), fits ? 0 : 3);
            }
        }
        Check.due("finding", x.as(0, 1), Check.KIND);
        Check.due("kind 6", x.as(0, 6), NightLoom.BAD);
        Check.due("kind -1", x.as(0, -1), NightLoom.BAD);
        Check.due("suitor 5", x.as(5, 0), NightLoom.BAD);
        Check.due("suitor -1", x.as(-1, 0), NightLoom.BAD);
        Check.due("status stays", x.status(), 3);
        Check.due("suitor 5", x.kind(5), NightLoom.BAD);
        Check.due("suitor -1", x.kind(-1), NightLoom.BAD);
        Check.due("without a loom", new NightLoom().kind(0), NightLoom.BAD);
        Check.due("without a loom", new NightLoom().as(0, 0), NightLoom.BAD);
    }

    private static void dueAsk(NightLoom x, int suitor, int what, int due, int... trace) {
        Check.due("ask " + what + " of " + suitor, x.ask(suitor, what), due);
        for (int i = 0; i < trace.length; i++) {
            Check.due("trace " + i + " of " + suitor, x.trace(i), trace[i]);
        }
        Check.due("no more", x.trace(trace.length), NightLoom.NONE);
    }

    private static void suitorsAreAsked() {
        NightLoom x = Check.loomOf("l24,99,9,0,0,0;c0;k1,3;p1,4;w1,5;n1,6;m1,7;");
        Check.act(x, 6, 2, 0, 1, 0, 0);
        int[] doubts = {2, 2, 2, 2, 1};
        for (int i = 0; i < 5; i++) {
            Check.due("doubts of " + i, x.suitor(i, 2), doubts[i]);
        }
        dueAsk(x, 0, 0, 2 + 3, 11, 10, 21, 20);
        dueAsk(x, 0, 1, 3, 21, 20);
        dueAsk(x, 1, 0, -(2 + 2 * (1 + 4)), 12, 11, 10, 24, 21, 20);
        dueAsk(x, 1, 1, 2 * (1 + 4), 24, 21, 20);
        dueAsk(x, 2, 0, 2 + 2 + 5 - 1000, 11, 10, 22, 21, 20);
        dueAsk(x, 2, 1, 2 + 5 - 1000, 22, 21, 20);
        dueAsk(x, 3, 0, 2 - 100, 13, 10);
        dueAsk(x, 3, 1, 3 - (2 - 100), 23, 20, 13, 10);
        dueAsk(x, 4, 0, 2 * (1 - 100), 14, 13, 10);
        dueAsk(x, 4, 1, 4 - 2 * (1 - 100), 23, 20, 14, 13, 10);
    }

    private static void askingIsRefused() {
        NightLoom x = Check.loomOf(Check.FIVE);
        dueAsk(x, 3, 0, -100, 13, 10);
        Check.due("what 2", x.ask(0, 2), NightLoom.BAD);
        Check.due("what -1", x.ask(0, -1), NightLoom.BAD);
        Check.due("suitor 5", x.ask(5, 0), NightLoom.BAD);
        Check.due("suitor -1", x.ask(-1, 0), NightLoom.BAD);
        Check.due("the trace stays", x.trace(0), 13);
        Check.due("trace -1", x.trace(-1), NightLoom.NONE);
        Check.due("trace 16", x.trace(16), NightLoom.NONE);
        Check.due("far trace", x.trace(Integer.MAX_VALUE), NightLoom.NONE);
        Check.due("without a loom", new NightLoom().ask(0, 0), NightLoom.BAD);
    }

    private static void thingsAreCounted() {
        NightLoom x = Check.loomOf(Check.FIVE);
        x.row(0, 0, 0);
        x.row(5, 1, 3);
        x.feed(1);
        // On the second night two are undone: the maid knows.
        Check.act(x, 2, 0, 2, 2, 0);
        int[] due = {2, 12, 6, 5, 3, 16, 5, 1};
        for (int what = 0; what < 8; what++) {
            Check.due("count " + what, x.count(what), due[what]);
        }
        Check.due("count 8", x.count(8), NightLoom.BAD);
        Check.due("count -1", x.count(-1), NightLoom.BAD);
    }
}
