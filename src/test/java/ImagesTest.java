/** Promises 21 and 22: a loom is kept, and comes again. */
public final class ImagesTest {
    public static void main(String[] args) {
        imagesAreRefused();
        imagesHoldAll();
        imagesOutliveLooms();
        Check.end();
    }

    private static void imagesAreRefused() {
        NightLoom x = new NightLoom();
        Check.due("BAD ahead of STATE", x.image(2), NightLoom.BAD);
        Check.due("BAD ahead of STATE", x.restore(-1), NightLoom.BAD);
        Check.due("no loom", x.image(0), NightLoom.STATE);
        Check.due("none kept", x.restore(0), NightLoom.STATE);
        Check.read(x, Check.FIVE);
        Check.due("kept", x.image(1), 1);
        Check.due("the other one", x.restore(0), NightLoom.STATE);
        Check.due("restored", x.restore(1), 1);
        Check.due("-1", x.image(-1), NightLoom.BAD);
        Check.due("2", x.restore(2), NightLoom.BAD);
    }

    private static int[] all(NightLoom x) {
        int[] told = new int[56];
        int at = 0;
        for (int what = 1; what < 6; what++) {
            told[at++] = x.count(what);
        }
        for (int what = 0; what < 7; what++) {
            told[at++] = x.cloth(what);
        }
        for (int place = 0; place < 14; place++) {
            told[at++] = x.colour(place);
        }
        for (int suitor = 0; suitor < 5; suitor++) {
            for (int what = 0; what < 5; what++) {
                told[at++] = x.suitor(suitor, what);
            }
            told[at++] = x.kind(suitor);
        }
        return told;
    }

    private static void dueAll(String when, NightLoom x, int[] due) {
        int[] got = all(x);
        for (int i = 0; i < due.length; i++) {
            Check.due(when + ", " + i, got[i], due[i]);
        }
    }

    private static void imagesHoldAll() {
        NightLoom x = Check.loomOf(Check.FIVE);
        Check.act(x, 4, 2, 1, 3, 3, 1, 2, 0);
        x.image(0);
        int[] early = all(x);
        Check.act(x, 0);
        int byNight = x.cloth(4);
        x.image(1);
        int[] late = all(x);
        Check.act(x, 1, 2);
        Check.due("restored", x.restore(0), 1);
        dueAll("early", x, early);
        Check.due("no act", x.count(6), 0);
        Check.due("no act", x.undo(), NightLoom.STATE);
        Check.act(x, 0);
        Check.due("the feast is as it was", x.cloth(4), byNight);
        Check.due("an act again", x.count(6), 1);
        Check.due("restored", x.restore(1), 1);
        dueAll("late", x, late);
        Check.act(x, 2, 2);
        Check.due("restored again", x.restore(1), 1);
        dueAll("late again", x, late);
    }

    private static void imagesOutliveLooms() {
        NightLoom x = Check.loomOf(Check.FIVE);
        Check.act(x, 4, 2, 1);
        x.image(0);
        int[] before = all(x);
        Check.read(x, "l4,0,0,0,0,0;c3;m9,9;");
        Check.act(x, 0);
        int[] other = all(x);
        x.image(1);
        Check.due("restored", x.restore(0), 1);
        dueAll("the loom before", x, before);
        Check.due("longest of that one", x.longest(1) >= 0 ? 1 : 0, 1);
        Check.due("restored", x.restore(1), 1);
        dueAll("the other loom", x, other);
        Check.due("yarn of the other", x.weave(0), NightLoom.STATE);
        Check.read(x, Check.LAW);
        Check.due("restored", x.restore(1), 1);
        dueAll("still", x, other);
    }
}
