/** Promises 15 to 20: habits, stretches, and what evenings tell. */
public final class ForetoldTest {
    public static void main(String[] args) {
        habitsEnd();
        theFirstEndCounts();
        habitsBeginByNight();
        foretellingIsRefused();
        longestHabits();
        soonestByEvery();
        soonestEnds();
        stretchesTwice();
        lengthsThatLookTheSame();
        eveningsSeen();
        nightsSeen();
        seenIsRefused();
        Check.end();
    }

    private static void dueHabit(NightLoom x, int a, int b, int days, int ends, int who) {
        String habit = "habit " + a + ", " + b + ": ";
        Check.due(habit + "days", x.holds(a, b, 0), days);
        Check.due(habit + "ends", x.holds(a, b, 1), ends);
        Check.due(habit + "who", x.holds(a, b, 2), who);
    }

    private static void habitsEnd() {
        NightLoom free = Check.loomOf("l24,5,9,0,0,0;c0;");
        dueHabit(free, 0, 0, 200, 0, NightLoom.NONE);
        dueHabit(free, 2, 0, 2, 1, NightLoom.NONE);
        dueHabit(free, 1, 0, 5, 1, NightLoom.NONE);
        // One thread hung takes 1 of yarn, then one of each four; the 20th that is worn finds none.
        dueHabit(free, 1, 9, 20, 1, NightLoom.NONE);
        NightLoom small = Check.loomOf("l4,99,9,0,0,0;c0;");
        dueHabit(small, 1, 0, 3, 2, NightLoom.NONE);
        dueHabit(small, 6, 9, 0, 2, NightLoom.NONE);
        NightLoom feasts = Check.loomOf("l24,99,9,0,2,3;c0;");
        dueHabit(feasts, 1, 0, 1, 3, NightLoom.NONE);
        dueHabit(feasts, 2, 0, 11, 2, NightLoom.NONE);
        NightLoom candles = Check.loomOf("l24,99,9,3,0,0;c0;m1,9;n3,1;n2,2;");
        dueHabit(candles, 3, 1, 3, 4, 2);
        dueHabit(candles, 3, 0, 7, 2, NightLoom.NONE);
        Check.due("nothing changes", candles.count(6) + candles.cloth(0) + candles.count(5), 0);
        Check.due("nothing changes", candles.count(4), 1);
        NightLoom both = Check.loomOf("l24,99,9,0,0,0;c0;k1,9;k1,2;w1,1;k1,2;");
        dueHabit(both, 0, 0, 2, 4, 1);
    }

    private static void theFirstEndCounts() {
        NightLoom blameThenKnows = Check.loomOf("l24,99,9,0,2,9;c0;k1,1;");
        dueHabit(blameThenKnows, 0, 0, 1, 3, NightLoom.NONE);
        NightLoom doneThenBlame = Check.loomOf("l4,99,9,0,1,9;c0;");
        dueHabit(doneThenBlame, 4, 0, 0, 2, NightLoom.NONE);
        NightLoom yarnThenDone = Check.loomOf("l4,3,9,0,1,9;c0;");
        dueHabit(yarnThenDone, 4, 0, 0, 1, NightLoom.NONE);
        NightLoom knows = Check.loomOf("l24,3,9,0,0,0;c0;n1,1;");
        Check.act(knows, 2, 1);
        dueHabit(knows, 0, 0, 0, 4, 0);
        dueHabit(knows, 6, 0, 0, 1, NightLoom.NONE);
    }

    private static void habitsBeginByNight() {
        NightLoom x = Check.loomOf("l24,99,9,0,0,0;c0;n1,2;");
        Check.act(x, 4);
        dueHabit(x, 2, 1, 0, 4, 0);
        dueHabit(x, 6, 0, 3, 2, NightLoom.NONE);
        NightLoom first = Check.loomOf("l4,99,9,0,0,0;c0;n1,1;");
        Check.act(first, 4);
        dueHabit(first, 0, 1, 0, 4, 0);
        dueHabit(first, 0, 0, 0, 2, NightLoom.NONE);
        NightLoom undone = Check.loomOf("l4,99,9,0,0,0;c0;");
        Check.act(undone, 4);
        dueHabit(undone, 0, 1, 200, 0, NightLoom.NONE);
    }

    private static void foretellingIsRefused() {
        NightLoom none = new NightLoom();
        Check.due("no loom ahead of BAD", none.holds(7, 0, 0), NightLoom.STATE);
        Check.due("no loom ahead of BAD", none.longest(3), NightLoom.STATE);
        Check.due("no loom ahead of BAD", none.twice(3), NightLoom.STATE);
        Check.due("no loom ahead of BAD", none.looks(-1), NightLoom.STATE);
        Check.due("no loom, no suitor", none.soonest(0, 0, 0, 0), NightLoom.BAD);
        NightLoom x = Check.loomOf(Check.FIVE);
        int[][] habits = {{7, 0, 0}, {-1, 0, 0}, {0, 10, 0}, {0, -1, 0}, {0, 0, 3}, {0, 0, -1}};
        for (int[] h : habits) {
            Check.due("no such habit", x.holds(h[0], h[1], h[2]), NightLoom.BAD);
            Check.due("no such habit", x.soonest(0, h[0], h[1], h[2]), NightLoom.BAD);
        }
        Check.due("what 2", x.soonest(0, 0, 0, 2), NightLoom.BAD);
        Check.due("suitor 5", x.soonest(5, 0, 0, 0), NightLoom.BAD);
        Check.due("suitor -1", x.soonest(-1, 0, 0, 0), NightLoom.BAD);
        for (int what = -1; what <= 3; what += 4) {
            Check.due("what", x.longest(what), NightLoom.BAD);
            Check.due("what", x.twice(what), NightLoom.BAD);
        }
        Check.due("below 0", x.looks(-1), NightLoom.BAD);
    }

    private static void dueLongest(NightLoom x, int a, int b, int days) {
        Check.due("longest a", x.longest(0), a);
        Check.due("longest b", x.longest(1), b);
        Check.due("longest days", x.longest(2), days);
    }

    private static void longestHabits() {
        dueLongest(Check.loomOf("l24,5,9,0,0,0;c0;"), 0, 0, 200);
        dueLongest(Check.loomOf(Check.FIVE), 1, 0, 11);
        // One more must hang at each feast: what is undone is woven again, and no thread is left by the 24th.
        dueLongest(Check.loomOf("l24,99,9,0,1,1;c0;"), 1, 0, 23);
        dueLongest(Check.loomOf("l4,1,9,0,1,1;c0;"), 1, 0, 1);
        // None ever holds for a day: the least of all.
        dueLongest(Check.loomOf("l4,9,9,0,1,9;c0;"), 0, 0, 0);
        // He who counts doubts unless more hang: one woven, none undone, till it is done.
        dueLongest(Check.loomOf("l10,99,2,0,0,0;c0;k1,9;"), 0, 0, 9);
        NightLoom waits = Check.loomOf("l6,99,2,0,0,0;c0;w1,1;k1,1;");
        dueLongest(waits, 1, 0, 5);
        NightLoom night = Check.loomOf("l6,99,2,0,0,0;c0;n1,1;");
        Check.act(night, 6);
        // It is done now: all that undoes nothing is done by day, and all that undoes is known by night.
        dueLongest(night, 0, 0, 0);
        // He looks on moonless nights alone.
        NightLoom spared = Check.loomOf("l6,99,2,3,0,0;c0;n3,1;");
        Check.act(spared, 6);
        dueLongest(spared, 0, 1, 200);
    }

    private static void dueSoonest(NightLoom x, int suitor, int a, int b, int every, int days) {
        String habit = "soonest of " + suitor + " by " + a + ", " + b;
        Check.due(habit, x.soonest(suitor, a, b, 0), every);
        Check.due(habit + ", days", x.soonest(suitor, a, b, 1), days);
    }

    private static void soonestByEvery() {
        NightLoom x = Check.loomOf("l24,99,9,2,0,0;c0,1,2;k9,2;p9,1;w9,1;n9,3;m9,1;");
        dueSoonest(x, 0, 0, 0, 1, 3);
        // By 1 a day the colours come again each third day.
        dueSoonest(x, 1, 1, 0, 3, 6);
        dueSoonest(x, 2, 1, 1, NightLoom.NONE, NightLoom.NONE);
        // Day 2 is moonless: the third doubt comes on day 5.
        dueSoonest(x, 3, 1, 1, 1, 5);
        dueSoonest(x, 4, 2, 2, 1, 1);
        dueSoonest(x, 4, 2, 1, NightLoom.NONE, NightLoom.NONE);
        Check.due("nothing changes", x.suitor(1, 0), 9);
        // He would know on day 34 by 2, on day 28 by 7.
        dueSoonest(Check.loomOf("l24,99,9,2,0,0;c1,2,2,2,1,3,3,0;p1,2;"), 0, 4, 7, 9, 27);
        NightLoom late = Check.loomOf("l24,99,9,0,0,0;c0;n9,1;");
        Check.act(late, 1, 0);
        // On day 2 an every of 1 or 2 looks: the least.
        dueSoonest(late, 0, 1, 1, 1, 1);
        NightLoom knows = Check.loomOf("l24,99,9,0,0,0;c0;n1,1;");
        Check.act(knows, 1, 1);
        dueSoonest(knows, 0, 0, 0, 1, 0);
        NightLoom blamed = Check.loomOf("l24,99,9,0,1,9;c0;n1,1;k1,4;");
        dueSoonest(blamed, 1, 1, 1, 1, 5);
    }

    private static void soonestEnds() {
        NightLoom night = Check.loomOf("l24,3,9,0,0,0;c0;n1,2;m1,1;n1,9;");
        Check.act(night, 3);
        dueSoonest(night, 1, 1, 2, 1, 1);
        dueSoonest(night, 0, 1, 1, 1, 1);
        // The night that is now, then days as long as the yarn lasts: none is left for the fourth that is worn.
        dueSoonest(night, 2, 1, 1, NightLoom.NONE, NightLoom.NONE);
        NightLoom idle = Check.loomOf("l24,3,9,0,0,0;c0;n1,1;k1,1;");
        Check.act(idle, 3);
        // By that night he knows, though there is no yarn for the day behind it.
        dueSoonest(idle, 0, 6, 1, 1, 1);
        dueSoonest(idle, 1, 0, 0, 1, 1);
        NightLoom done = Check.loomOf("l4,99,9,0,0,0;c0;k1,1;n1,2;");
        Check.act(done, 4, 1);
        dueSoonest(done, 0, 1, 1, 1, 1);
        dueSoonest(done, 1, 1, 1, NightLoom.NONE, NightLoom.NONE);
        NightLoom slow = Check.loomOf("l24,99,9,0,0,0;c0;k9,9;m1,9;");
        dueSoonest(slow, 0, 0, 0, 1, 10);
        dueSoonest(slow, 1, 0, 9, NightLoom.NONE, NightLoom.NONE);
    }

    private static void dueTwice(String colours, int threads, int length, int first, int second) {
        NightLoom x = Check.loomOf("l" + threads + ",0,0,0,0,0;c" + colours + ";");
        Check.due("twice of " + colours, x.twice(0), length);
        Check.due("first of " + colours, x.twice(1), first);
        Check.due("second of " + colours, x.twice(2), second);
    }

    private static void stretchesTwice() {
        dueTwice("0,1,2,3", 4, 0, NightLoom.NONE, NightLoom.NONE);
        dueTwice("0", 4, 3, 0, 1);
        dueTwice("0,1,2", 4, 1, 0, 3);
        dueTwice("0,1,1,0", 4, 1, 0, 3);
        dueTwice("1,2,3,3,2,3", 6, 2, 1, 4);
        dueTwice("3,0,1,0,1,0", 6, 3, 1, 3);
        dueTwice("0,1,2,3,0,1,2,2", 24, 16, 0, 8);
        // Three stretches alike: the first two.
        dueTwice("0,1,2,0,1,3,0,1", 8, 2, 0, 3);
    }

    private static void lengthsThatLookTheSame() {
        NightLoom x = Check.loomOf("l7,99,9,0,0,0;c0,1,1;");
        Check.due("nothing hangs", x.looks(0), 8);
        Check.due("nothing hangs", x.looks(1), NightLoom.NONE);
        Check.act(x, 3);
        // 0 1 1 0 1 1 0: the last one is 1 at 2, 3, 5, 6; the last two 1 1 at 3, 6.
        Check.due("0", x.looks(0), 8);
        Check.due("1", x.looks(1), 4);
        Check.due("2", x.looks(2), 2);
        Check.due("3", x.looks(3), 2);
        Check.due("4", x.looks(4), NightLoom.NONE);
        Check.due("far", x.looks(Integer.MAX_VALUE), NightLoom.NONE);
        Check.act(x, 0, 4);
        Check.due("all", x.looks(7), 1);
        Check.due("1", x.looks(1), 3);
    }

    private static void rowOf(NightLoom x, int... items) {
        Check.due("row", x.row(0, 2, items.length), items.length);
        for (int i = 0; i < items.length; i++) {
            x.set(0, i, items[i]);
        }
    }

    private static void dueSeen(NightLoom x, int n, int ways, int inAll, int inSome) {
        Check.due("ways by " + n, x.seen(0, 0, n, 0), ways);
        Check.due("in all by " + n, x.seen(0, 0, n, 1), inAll);
        Check.due("in some by " + n, x.seen(0, 0, n, 2), inSome);
    }

    private static void eveningsSeen() {
        NightLoom x = Check.loomOf("l24,0,9,3,0,0;c0;");
        rowOf(x, 6, 4, 10, 10, 11, 4, 2, 0);
        dueSeen(x, 1, 1, 0, 0);
        // 2 to 6 undone of 6, so that 0 to 4 are woven.
        dueSeen(x, 2, 5, 1, 1);
        // 4 to 10 takes all six, with none undone.
        dueSeen(x, 3, 5, 1, 1);
        // Night 3 is moonless.
        dueSeen(x, 4, 5, 1, 1);
        dueSeen(x, 5, 30, 1, 9);
        // 11 to 4: 7 to 9 undone of TIRED 9, so that 0 to 2 are woven.
        dueSeen(x, 6, 90, 17, 25);
        // Night 6 is moonless: none can come to hang fewer.
        dueSeen(x, 7, 0, NightLoom.NONE, NightLoom.NONE);
        rowOf(x, 7, 7);
        dueSeen(x, 1, 0, NightLoom.NONE, NightLoom.NONE);
        Check.due("from 1 on", x.seen(0, 1, 1, 0), 0);
        NightLoom wide = Check.loomOf("l24,0,9,0,0,0;c0;");
        Check.act(wide, 0, 0);
        rowOf(wide, 6, 6, 6, 6, 6, 6, 6, 6);
        dueSeen(wide, 8, 823543, 0, 127);
    }

    private static void nightsSeen() {
        NightLoom x = Check.loomOf("l12,40,3,2,0,0;c0;");
        Check.act(x, 5, 0, 1);
        rowOf(x, 6, 6, 4);
        // It is the night of day 2, moonless; then that of day 3.
        dueSeen(x, 1, 1, 0, 0);
        dueSeen(x, 2, 1, 0, 0);
        dueSeen(x, 3, 2, 2, 2);
        rowOf(x, 7, 6);
        dueSeen(x, 1, 0, NightLoom.NONE, NightLoom.NONE);
        Check.act(x, 0);
        rowOf(x, 6, 5);
        dueSeen(x, 2, 3, 1, 1);
        rowOf(x, 5, 5);
        dueSeen(x, 1, 0, NightLoom.NONE, NightLoom.NONE);
        rowOf(x, 12, 12);
        dueSeen(x, 2, 4, 0, 1);
    }

    private static void seenIsRefused() {
        NightLoom none = new NightLoom();
        Check.due("no loom ahead of BAD", none.seen(8, 0, 0, 3), NightLoom.STATE);
        NightLoom x = Check.loomOf("l12,40,3,2,0,0;c0;");
        rowOf(x, 0, 0, 12, 13, -1);
        Check.due("row 8", x.seen(8, 0, 1, 0), NightLoom.BAD);
        Check.due("row -1", x.seen(-1, 0, 1, 0), NightLoom.BAD);
        Check.due("no evening", x.seen(0, 0, 0, 0), NightLoom.BAD);
        Check.due("9 evenings", x.seen(0, 0, 9, 0), NightLoom.BAD);
        Check.due("what 3", x.seen(0, 0, 1, 3), NightLoom.BAD);
        Check.due("what -1", x.seen(0, 0, 1, -1), NightLoom.BAD);
        Check.due("missing", x.seen(1, -1, 1, 0), Check.NULL);
        Check.due("place ahead of items", x.seen(0, 3, 3, 0), Check.PLACE);
        Check.due("place -1", x.seen(0, -1, 1, 0), Check.PLACE);
        Check.due("far place", x.seen(0, Integer.MAX_VALUE, 8, 0), Check.PLACE);
        Check.due("status", x.status(), 2);
        Check.due("13 of 12", x.seen(0, 3, 1, 0), NightLoom.BAD);
        Check.due("-1", x.seen(0, 4, 1, 0), NightLoom.BAD);
        Check.due("status is that of the call before", x.status(), 2);
        Check.due("12 of 12", x.seen(0, 2, 1, 0), 0);
        Check.due("status", x.status(), 0);
        Check.due("NONE is no finding", x.seen(0, 2, 1, 1), NightLoom.NONE);
        Check.due("status", x.status(), 0);
    }
}
