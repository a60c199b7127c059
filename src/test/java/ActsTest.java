/** Promises 9 to 12 and 14: threads woven and undone, who doubts, who knows. */
public final class ActsTest {
    public static void main(String[] args) {
        weavingIsRefused();
        unpickingIsRefused();
        yarnWears();
        thoseWhoCountOrWaitDoubt();
        paintersDoubt();
        thoseOfTheNightDoubt();
        feastsBlame();
        someKnow();
        actsAreUndone();
        theOldestActsAreForgotten();
        Check.end();
    }

    private static void weavingIsRefused() {
        Check.due("no loom ahead of BAD", new NightLoom().weave(7), NightLoom.STATE);
        NightLoom x = Check.loomOf("l4,3,9,0,0,0;c0;");
        Check.due("7", x.weave(7), NightLoom.BAD);
        Check.due("-1", x.weave(-1), NightLoom.BAD);
        Check.due("more than long", x.weave(5), NightLoom.STATE);
        Check.due("not so much yarn", x.weave(4), NightLoom.STATE);
        Check.due("still nothing", x.cloth(0) + x.count(6), 0);
        Check.due("all the yarn", x.weave(3), 3);
        Check.due("night", x.weave(0), NightLoom.STATE);
        Check.due("night behind BAD", x.weave(7), NightLoom.BAD);
        Check.act(x, 0);
        Check.due("no yarn", x.weave(1), NightLoom.STATE);
        Check.due("none", x.weave(0), 3);
        NightLoom y = Check.loomOf("l4,9,9,0,0,0;c0;");
        Check.act(y, 4);
        Check.due("done", y.cloth(6), 1);
        Check.act(y, 1);
        Check.due("not done", y.cloth(6), 0);
        Check.due("more than long", y.weave(2), NightLoom.STATE);
        Check.due("full again", y.weave(1), 4);
        Check.due("what 7", y.cloth(7), NightLoom.BAD);
        Check.due("what -1", y.cloth(-1), NightLoom.BAD);
    }

    private static void unpickingIsRefused() {
        Check.due("no loom ahead of BAD", new NightLoom().unpick(10), NightLoom.STATE);
        NightLoom x = Check.loomOf("l12,40,3,2,0,0;c0;");
        Check.due("by day", x.unpick(0), NightLoom.STATE);
        Check.due("by day behind BAD", x.unpick(10), NightLoom.BAD);
        Check.act(x, 6);
        Check.due("-1", x.unpick(-1), NightLoom.BAD);
        Check.due("tired", x.unpick(4), NightLoom.STATE);
        Check.due("still night", x.cloth(5), 1);
        Check.due("3", x.unpick(3), 3);
        Check.due("day 2", x.count(4), 2);
        Check.act(x, 0);
        Check.due("moonless", x.unpick(1), NightLoom.STATE);
        Check.due("none on a moonless night", x.unpick(0), 3);
        Check.act(x, 0, 3, 0, 0, 1);
        Check.due("fewer hang", x.unpick(2), NightLoom.STATE);
        Check.due("all that hang", x.unpick(1), 0);
        NightLoom old = Check.loomOf("l4,0,0,0,0,0;c0;");
        // No run that is promised comes so far; it must not run on all the same.
        for (int day = 1; day < 999; day++) {
            Check.act(old, 0, 0);
        }
        Check.due("tired ahead of FULL", act(old, 1), NightLoom.STATE);
        Check.due("day 999", old.unpick(0), NightLoom.FULL);
        Check.due("day 999", old.count(4), 999);
    }

    private static int act(NightLoom x, int n) {
        Check.act(x, 0);
        return x.unpick(n);
    }

    private static void dueCloth(NightLoom x, int hang, int high, int wear, int yarn) {
        Check.due("hang", x.cloth(0), hang);
        Check.due("high", x.cloth(1), high);
        Check.due("wear", x.cloth(2), wear);
        Check.due("yarn", x.cloth(3), yarn);
    }

    private static void yarnWears() {
        NightLoom x = Check.loomOf("l24,99,9,0,0,0;c0;");
        Check.act(x, 6, 6);
        dueCloth(x, 0, 6, 0, 93);
        Check.act(x, 3, 0);
        dueCloth(x, 3, 6, 3, 93);
        Check.act(x, 3, 6);
        dueCloth(x, 0, 6, 6, 92);
        Check.act(x, 6, 2);
        dueCloth(x, 4, 6, 12, 90);
        Check.act(x, 4, 0);
        dueCloth(x, 8, 8, 14, 88);
        NightLoom y = Check.loomOf("l24,5,9,0,0,0;c0;");
        Check.act(y, 5, 4, 3, 3);
        dueCloth(y, 1, 5, 3, 0);
        Check.due("the fourth that is worn", y.weave(1), NightLoom.STATE);
        dueCloth(y, 1, 5, 3, 0);
    }

    private static void dueDoubts(NightLoom x, int... doubts) {
        for (int i = 0; i < doubts.length; i++) {
            Check.due("doubts of " + i + " on day " + x.count(4), x.suitor(i, 2), doubts[i]);
        }
    }

    private static void thoseWhoCountOrWaitDoubt() {
        NightLoom x = Check.loomOf("l12,40,9,0,0,0;c0,1;k1,9;k2,9;w1,9;w2,9;");
        Check.act(x, 3);
        dueDoubts(x, 0, 0, 0, 0);
        Check.due("looked", x.suitor(0, 4), 3);
        Check.due("not yet", x.suitor(1, 4), NightLoom.NONE);
        Check.act(x, 1, 1);
        dueDoubts(x, 1, 0, 0, 0);
        Check.act(x, 2, 1);
        dueDoubts(x, 2, 0, 1, 0);
        Check.act(x, 0, 1);
        dueDoubts(x, 2, 1, 1, 0);
        Check.act(x, 3, 2);
        dueDoubts(x, 3, 1, 2, 0);
        Check.act(x, 0, 0);
        dueDoubts(x, 4, 2, 2, 1);
        Check.due("looked", x.suitor(1, 4), 2);
        Check.due("no suitor", x.suitor(4, 0), NightLoom.BAD);
        Check.due("no suitor", x.suitor(-1, 0), NightLoom.BAD);
        Check.due("what 5", x.suitor(0, 5), NightLoom.BAD);
        Check.due("what -1", x.suitor(0, -1), NightLoom.BAD);
        NightLoom none = Check.loomOf("l12,40,9,0,0,0;c0,1;k1,9;w1,9;");
        Check.act(none, 0, 0, 0);
        dueDoubts(none, 1, 0);
    }

    private static void paintersDoubt() {
        NightLoom x = Check.loomOf("l12,40,9,0,0,0;c0,1,1,2,0,1;p1,9;");
        Check.act(x, 1, 0, 0);
        dueDoubts(x, 0);
        Check.act(x, 0, 1, 0, 4);
        dueDoubts(x, 1);
        Check.act(x, 0, 0);
        dueDoubts(x, 2);
        Check.act(x, 3, 0);
        dueDoubts(x, 2);
        NightLoom turned = Check.loomOf("l12,40,9,0,0,0;c0,1;p1,9;");
        Check.act(turned, 2, 0, 1, 0, 2);
        dueDoubts(turned, 1);
        Check.act(turned, 4, 0);
        dueDoubts(turned, 1);
        Check.act(turned, 0, 6);
        dueDoubts(turned, 1);
    }

    private static void thoseOfTheNightDoubt() {
        NightLoom x = Check.loomOf("l12,40,9,0,0,0;c0;n1,9;m1,9;n2,9;m2,9;");
        Check.act(x, 6, 1);
        dueDoubts(x, 1, 0, 0, 0);
        Check.act(x, 0, 1);
        dueDoubts(x, 2, 0, 1, 0);
        Check.act(x, 0, 2);
        dueDoubts(x, 3, 1, 1, 0);
        Check.act(x, 2, 2);
        dueDoubts(x, 4, 2, 2, 1);
        Check.act(x, 0, 0, 0, 0);
        dueDoubts(x, 4, 2, 2, 1);
        Check.due("a candle never looks at what hangs", x.suitor(0, 4), NightLoom.NONE);
        Check.due("nor does a maid", x.suitor(1, 4), NightLoom.NONE);
    }

    private static void feastsBlame() {
        NightLoom x = Check.loomOf("l12,40,9,0,2,3;c0;");
        Check.act(x, 1);
        Check.due("no feast", x.cloth(4), 0);
        Check.act(x, 0, 1);
        Check.due("2 more", x.cloth(4), 1);
        Check.act(x, 0, 2, 0, 1);
        Check.due("3 more", x.cloth(4), 1);
        Check.act(x, 2, 2, 0, 2);
        Check.due("2 more", x.cloth(4), 2);
        NightLoom y = Check.loomOf("l12,40,9,0,1,0;c0;");
        Check.act(y, 2, 0, 0);
        Check.due("none more, as told", y.cloth(4), 0);
        Check.act(y, 1, 0);
        Check.due("fewer", y.cloth(4), 1);
        Check.read(y, "l12,40,9,0,1,1;c0;");
        Check.due("a new loom", y.cloth(4), 0);
        Check.act(y, 1);
        Check.due("its first feast", y.cloth(4), 0);
        NightLoom none = Check.loomOf("l12,40,9,0,0,9;c0;");
        Check.act(none, 0, 0, 0);
        Check.due("no feasts", none.cloth(4), 0);
    }

    private static void someKnow() {
        NightLoom x = Check.loomOf("l12,40,9,0,0,0;c0;k1,2;n1,1;");
        Check.act(x, 2, 1);
        Check.due("who knows", x.count(5), 2);
        Check.act(x, 0);
        Check.due("not yet", x.suitor(0, 3), 0);
        Check.act(x, 0, 0);
        Check.due("knows", x.suitor(0, 3), 1);
        Check.act(x, 0, 0);
        Check.due("knows beyond his limit", x.suitor(0, 3), 1);
        Check.due("who knows", x.count(5), 3);
    }

    private static void actsAreUndone() {
        NightLoom x = Check.loomOf("l12,40,9,0,1,3;c0;k1,1;n1,1;");
        Check.act(x, 3, 2, 1);
        Check.due("blamed", x.cloth(4), 1);
        Check.due("undo", x.undo(), 2);
        Check.due("by day", x.cloth(5), 0);
        Check.due("hang", x.cloth(0), 1);
        Check.due("blamed", x.cloth(4), 0);
        Check.due("looked", x.suitor(0, 4), 3);
        dueDoubts(x, 0, 1);
        Check.due("undo", x.undo(), 1);
        Check.due("night", x.cloth(5), 1);
        Check.due("day", x.count(4), 1);
        Check.due("hang", x.cloth(0), 3);
        dueDoubts(x, 0, 0);
        Check.due("acts", x.count(6), 1);
        Check.act(x, 0);
        Check.due("undo", x.undo(), 1);
        Check.due("undo", x.undo(), 0);
        dueCloth(x, 0, 0, 0, 40);
        Check.due("looked", x.suitor(0, 4), NightLoom.NONE);
        Check.due("none", x.undo(), NightLoom.STATE);
        Check.act(x, 3);
        Check.due("the first feast again", x.cloth(4), 0);
    }

    private static void theOldestActsAreForgotten() {
        NightLoom x = Check.loomOf("l24,99,9,0,0,0;c0;");
        for (int act = 0; act < 15; act++) {
            Check.act(x, 1, 0);
        }
        Check.due("acts", x.count(6), 24);
        for (int left = 23; left >= 0; left--) {
            Check.due("undo", x.undo(), left);
        }
        Check.due("none", x.undo(), NightLoom.STATE);
        Check.due("hang", x.cloth(0), 3);
        Check.due("day", x.count(4), 4);
    }
}
