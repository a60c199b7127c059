/** Boundary cases of promises 15 to 20, and of term 3. */
public final class EdgesOfForetoldTest {
    private static final String FREE = "text l24,99,9,0,0,0;c0;";

    public static void main(String[] args) {
        numbersOfHabits();
        daysTill200();
        roomAndYarn();
        whatSheUndoes();
        blamedInIt();
        behindItsNight();
        whatComesFirst();
        thatNightComesFirst();
        longestOfSeveral();
        numbersOfSoonest();
        soonestEvery();
        soonestDays();
        soonestEnds();
        stretches();
        lengths();
        refusalsOfSeen();
        itemsOfSeen();
        wovenAndUndone();
        nightsBetween();
        Check.end();
    }

    /** A HABIT, by "a b", with its DAYS, by what it ENDS, and who KNOWS first. */
    private static void dueHabit(NightLoom x, String sentence, String habit, int days, int ends, String who) {
        Edge.on(x, sentence, "holds " + habit + " 0 = " + days, "holds " + habit + " 1 = " + ends,
            "holds " + habit + " 2 = " + who);
    }

    private static void numbersOfHabits() {
        Edge.run("15: no LOOM ahead of BAD", "holds 0 0 0 = STATE", "holds -1 0 0 = STATE", "holds 0 10 0 = STATE",
            "holds 0 0 3 = STATE");
        Edge.run("15: a is 0 to 6, b 0 to 9, what 0 to 2", FREE, "holds 0 0 0 = 200", "holds 6 9 1 = 1", "holds 6 9 2 = NONE",
            "holds -1 0 0 = BAD", "holds 7 0 0 = BAD", "holds 0 -1 0 = BAD", "holds 0 10 0 = BAD", "holds 0 0 -1 = BAD",
            "holds 0 0 3 = BAD", "holds MIN 0 0 = BAD", "holds MAX 0 0 = BAD", "holds 0 MIN 0 = BAD", "holds 0 MAX 0 = BAD",
            "holds 0 0 MIN = BAD", "holds 0 0 MAX = BAD");
    }

    private static void daysTill200() {
        dueHabit(Edge.run("15: 200 at most", FREE), "by nothing", "0 0", 200, 0, "NONE");
        // One thread takes 1 of yarn, and each fourth that is worn 1 more: 50 of yarn last for 200 days.
        NightLoom x = Edge.run("15: 200 at most", "text l24,50,9,0,0,0;c0;");
        dueHabit(x, "200 DAYS, and the next would end by YARN", "1 9", 200, 0, "NONE");
        Edge.on(x, "one of them is over", "act 1 1");
        dueHabit(x, "199 DAYS", "1 9", 199, 1, "NONE");
        NightLoom night = Edge.run("15: by NIGHT", "text l24,51,9,0,0,0;c0;", "act 1");
        dueHabit(night, "that NIGHT is no DAY", "1 9", 200, 0, "NONE");
        NightLoom less = Edge.run("15: by NIGHT", "text l24,50,9,0,0,0;c0;", "act 1");
        dueHabit(less, "that NIGHT is no DAY", "1 9", 199, 1, "NONE");
    }

    private static void roomAndYarn() {
        NightLoom x = Edge.run("3: as many as there is room for till LONG", "text l4,4,9,0,0,0;c0;");
        dueHabit(x, "yarn for 4 is enough", "6 0", 0, 2, "NONE");
        dueHabit(x, "yarn for 4 is enough", "4 0", 0, 2, "NONE");
        dueHabit(x, "one less than LONG is not DONE", "3 0", 1, 2, "NONE");
        dueHabit(x, "one less than LONG is not DONE", "1 0", 3, 2, "NONE");
        NightLoom less = Edge.run("3: if there is YARN for it", "text l4,3,9,0,0,0;c0;");
        dueHabit(less, "yarn for 3", "6 0", 0, 1, "NONE");
        dueHabit(less, "yarn for 3", "3 0", 1, 1, "NONE");
        dueHabit(less, "none is needed", "0 0", 200, 0, "NONE");
        NightLoom five = Edge.run("3: if there is YARN for it", "text l24,5,9,0,0,0;c0;");
        dueHabit(five, "all of it", "5 0", 1, 1, "NONE");
        dueHabit(five, "the fourth that is worn", "5 5", 1, 1, "NONE");
        dueHabit(five, "the twelfth that is worn", "3 3", 4, 1, "NONE");
        NightLoom none = Edge.run("3: if there is YARN for it", "text l4,0,9,0,0,0;c0;");
        dueHabit(none, "not for one", "1 0", 0, 1, "NONE");
        NightLoom done = Edge.run("3: DONE now, by DAY", "text l4,4,9,0,0,0;c0;", "act 4 0");
        dueHabit(done, "no YARN is needed", "6 9", 0, 2, "NONE");
        dueHabit(done, "no YARN is needed", "0 0", 0, 2, "NONE");
    }

    private static void whatSheUndoes() {
        NightLoom tired = Edge.run("3: as many as TIRED lets her", "text l8,99,1,0,0,0;c0;");
        dueHabit(tired, "one more each DAY", "2 9", 6, 2, "NONE");
        dueHabit(tired, "one more each DAY", "2 1", 6, 2, "NONE");
        dueHabit(tired, "two more each DAY", "2 0", 3, 2, "NONE");
        NightLoom each = Edge.run("3: as many as MOON lets her", "text l8,99,9,1,0,0;c0;");
        dueHabit(each, "every NIGHT is moonless", "1 9", 7, 2, "NONE");
        NightLoom other = Edge.run("3: as many as MOON lets her", "text l8,99,9,2,0,0;c0;");
        dueHabit(other, "each other NIGHT is moonless", "1 9", 200, 0, "NONE");
        // Evenings 1 1 2 2 3 3 4 4: one is kept on each moonless night.
        dueHabit(other, "each other NIGHT is moonless", "1 1", 14, 2, "NONE");
        NightLoom maid = Edge.run("3: as many as hang", "text l8,99,9,0,0,0;c0;m1,1;n1,3;");
        dueHabit(maid, "one hangs, and is undone", "1 9", 2, 4, "1");
        dueHabit(maid, "two hang", "2 9", 0, 4, "0");
    }

    private static void blamedInIt() {
        NightLoom x = Edge.run("3: she is not BLAMED in it", "text l24,99,9,0,1,2;c0;");
        dueHabit(x, "GROWS 2", "2 0", 11, 2, "NONE");
        dueHabit(x, "GROWS 2", "3 1", 11, 2, "NONE");
        dueHabit(x, "one fewer", "1 0", 0, 3, "NONE");
        dueHabit(x, "one fewer on the second DAY", "3 2", 1, 3, "NONE");
        NightLoom third = Edge.run("3: on the third DAY", "text l24,99,9,0,3,3;c0;");
        dueHabit(third, "3 more", "1 0", 23, 2, "NONE");
        dueHabit(third, "fewer", "1 1", 2, 3, "NONE");
        NightLoom before = Edge.run("3: BLAMED before", "text l24,99,9,0,2,9;c0;", "act 0 0 0 0", "cloth 4 = 1");
        dueHabit(before, "not in it", "6 0", 3, 2, "NONE");
        dueHabit(before, "once more", "4 0", 1, 3, "NONE");
    }

    private static void behindItsNight() {
        NightLoom x = Edge.run("3: behind its NIGHT nobody KNOWS", "text l24,99,9,0,0,0;c0;m1,1;n1,2;");
        dueHabit(x, "LIMIT 2", "1 1", 1, 4, "1");
        dueHabit(x, "LIMIT 1", "2 2", 0, 4, "0");
        dueHabit(x, "none is undone", "1 0", 23, 2, "NONE");
        NightLoom count = Edge.run("3: behind its NIGHT nobody KNOWS", "text l24,99,9,0,0,0;c0;k1,1;");
        dueHabit(count, "he looks a second time", "0 0", 1, 4, "0");
        NightLoom both = Edge.run("3: the first SUITOR that KNOWS then, by numbers",
            "text l24,99,9,0,0,0;c0;w1,1;n2,1;k1,1;");
        dueHabit(both, "one knows by NIGHT, one in the EVENING ahead of it", "1 1", 1, 4, "1");
        NightLoom last = Edge.run("3: the first SUITOR that KNOWS then", "text l24,99,9,0,0,0;c0;w1,1;w1,1;w1,1;w1,1;n1,1;");
        dueHabit(last, "the last one", "1 1", 0, 4, "4");
        NightLoom knows = Edge.run("3: somebody KNOWS already", "text l24,99,9,0,0,0;c0;k1,1;n1,1;", "act 1 1");
        dueHabit(knows, "by DAY", "2 0", 0, 4, "1");
        dueHabit(knows, "by DAY", "0 0", 0, 4, "0");
    }

    private static void whatComesFirst() {
        NightLoom yarn = Edge.run("3: what comes first in that DAY", "text l4,3,9,0,1,9;c0;n1,1;");
        dueHabit(yarn, "YARN, DONE, BLAMED, KNOWS", "4 4", 0, 1, "NONE");
        NightLoom done = Edge.run("3: what comes first in that DAY", "text l4,4,9,0,1,9;c0;n1,1;");
        dueHabit(done, "DONE, BLAMED, KNOWS", "4 4", 0, 2, "NONE");
        NightLoom blamed = Edge.run("3: what comes first in that DAY", "text l4,4,9,0,1,9;c0;n1,1;");
        dueHabit(blamed, "BLAMED, KNOWS", "3 3", 0, 3, "NONE");
        NightLoom knows = Edge.run("3: what comes first in that DAY", "text l4,4,9,0,2,9;c0;n1,1;");
        dueHabit(knows, "KNOWS, BLAMED on the next DAY", "3 3", 0, 4, "0");
    }

    private static void thatNightComesFirst() {
        NightLoom x = Edge.run("3: that NIGHT comes first", "text l24,99,9,0,0,0;c0;n1,1;", "act 3");
        dueHabit(x, "and must leave nobody who KNOWS", "0 1", 0, 4, "0");
        dueHabit(x, "none is undone", "0 0", 200, 0, "NONE");
        NightLoom moonless = Edge.run("3: that NIGHT comes first", "text l24,99,9,1,0,0;c0;n1,1;", "act 3");
        dueHabit(moonless, "MOON", "0 9", 200, 0, "NONE");
        NightLoom knows = Edge.run("3: that NIGHT comes first", "text l4,0,9,0,0,0;c0;k1,1;", "act 0 0 0", "count 5 = 1");
        dueHabit(knows, "he KNOWS already, and there is no YARN behind it", "1 0", 0, 4, "0");
        NightLoom done = Edge.run("3: that NIGHT comes first", "text l4,9,9,0,0,0;c0;", "act 4");
        dueHabit(done, "DONE, till then", "0 1", 200, 0, "NONE");
        dueHabit(done, "DONE, and it stays", "0 0", 0, 2, "NONE");
        NightLoom blamed = Edge.run("3: that NIGHT comes first", "text l9,9,9,0,1,1;c0;", "act 0", "cloth 4 = 1");
        dueHabit(blamed, "BLAMED before it", "1 0", 8, 2, "NONE");
    }

    private static void dueLongest(NightLoom x, String sentence, int a, int b, int days) {
        Edge.on(x, sentence, "longest 0 = " + a, "longest 1 = " + b, "longest 2 = " + days);
    }

    private static void longestOfSeveral() {
        Edge.run("16: no LOOM ahead of BAD", "longest 0 = STATE", "longest -1 = STATE", "longest 3 = STATE");
        NightLoom x = Edge.run("16: what is 0 to 2", FREE, "longest -1 = BAD", "longest 3 = BAD", "longest MIN = BAD",
            "longest MAX = BAD");
        dueLongest(x, "3: of several the least a, then the least b", 0, 0, 200);
        dueLongest(Edge.run("LONGEST", "text l24,99,9,0,0,0;c0;k1,1;"), "1, 0 till it is DONE", 1, 0, 23);
        dueLongest(Edge.run("LONGEST", "text l24,99,0,0,0,0;c0;k1,1;"), "every b is as 0", 1, 0, 23);
        // At the first feast 6 must hang; at the second 12 would have to.
        dueLongest(Edge.run("LONGEST", "text l9,99,8,0,1,6;c3;"), "a is 6", 6, 0, 1);
        // By 8 she comes to hang 14 on the seventh day, and it is done; by 9 the second feast ends it.
        dueLongest(Edge.run("LONGEST", "text l13,99,9,3,5,9;c3;"), "b is 9", 6, 9, 9);
        NightLoom spared = Edge.run("LONGEST", "text l4,99,1,0,0,0;c0;", "act 4 0 0");
        dueLongest(spared, "b is TIRED: she must undo by that NIGHT", 0, 1, 200);
        NightLoom known = Edge.run("LONGEST", "text l24,99,9,0,0,0;c0;n1,1;k1,1;");
        dueLongest(known, "one that is foretold ahead of the next", 1, 0, 23);
        Edge.on(known, "somebody KNOWS", "act 1 1");
        dueLongest(known, "for no DAY: the least of all", 0, 0, 0);
    }

    private static void numbersOfSoonest() {
        Edge.run("17: no such SUITOR", "soonest 0 0 0 0 = BAD", "text l24,99,9,0,0,0;c0;", "soonest 0 0 0 0 = BAD",
            "text l24,99,9,0,0,0;c0;k1,1;n1,1;", "soonest 1 1 1 1 = 1", "soonest 2 1 1 1 = BAD", "soonest -1 1 1 1 = BAD",
            "soonest 5 1 1 1 = BAD", "soonest MIN 0 0 0 = BAD", "soonest MAX 0 0 0 = BAD");
        Edge.run("17: a is 0 to 6, b 0 to 9, what 0, 1", "text l24,99,9,0,0,0;c0;k1,1;n1,1;", "soonest 1 6 9 0 = 1",
            "soonest 0 0 0 1 = 2", "soonest 0 -1 0 0 = BAD", "soonest 0 7 0 0 = BAD", "soonest 0 0 -1 0 = BAD",
            "soonest 0 0 10 0 = BAD", "soonest 0 0 0 -1 = BAD", "soonest 0 0 0 2 = BAD", "soonest 0 MAX 0 0 = BAD",
            "soonest 0 0 MIN 0 = BAD", "soonest 0 0 0 MAX = BAD");
    }

    /** SOONEST of a SUITOR by a HABIT, by "suitor a b". */
    private static void dueSoonest(NightLoom x, String sentence, String call, String every, String days) {
        Edge.on(x, sentence, "soonest " + call + " 0 = " + every, "soonest " + call + " 1 = " + days);
    }

    private static void soonestEvery() {
        // Two hang on the first day, and again on the ninth, behind a moonless night; one on all between.
        NightLoom nine = Edge.run("3: that EVERY, 1 to 9", "text l24,99,9,8,0,0;c0;p1,1;", "act 2 2");
        dueSoonest(nine, "by 9 alone he sees no other EVENING", "0 1 9", "9", "8");
        NightLoom ten = Edge.run("3: that EVERY, 1 to 9", "text l24,99,9,9,0,0;c0;p1,1;", "act 2 2");
        dueSoonest(ten, "it would be 10", "0 1 9", "NONE", "NONE");
        NightLoom second = Edge.run("3: of several the least", "text l24,99,9,0,0,0;c0;n9,1;", "act 1 0");
        dueSoonest(second, "on DAY 2 by 1 and by 2", "0 1 1", "1", "1");
        // Threads of three colours, one more each day: those who look each third day see the same.
        NightLoom third = Edge.run("3: of several the least", "text l24,99,9,0,0,0;c0,1,2;p9,1;");
        dueSoonest(third, "by 3 on DAY 6, by 6 on DAY 12", "0 1 0", "3", "6");
        Edge.on(third, "nothing changes", "suitor 0 0 = 9");
    }

    private static void soonestDays() {
        NightLoom x = Edge.run("3: the DAY in which he comes to KNOW is one", "text l24,99,9,0,0,0;c0;n1,1;n1,2;k1,1;m1,9;");
        dueSoonest(x, "in the first", "0 1 1", "1", "1");
        dueSoonest(x, "in the second", "1 1 1", "1", "2");
        dueSoonest(x, "in the second EVENING", "2 0 0", "1", "2");
        dueSoonest(x, "in the ninth", "3 2 2", "1", "9");
        dueSoonest(x, "never", "3 1 1", "NONE", "NONE");
        Edge.on(x, "that NIGHT and the DAY behind it are one", "act 1");
        dueSoonest(x, "by that NIGHT", "0 1 1", "1", "1");
        dueSoonest(x, "by the next", "1 1 1", "1", "1");
        dueSoonest(x, "in the EVENING between", "2 0 0", "1", "1");
        Edge.on(x, "he KNOWS already", "act 1");
        dueSoonest(x, "0: he KNOWS already", "0 1 1", "1", "0");
        dueSoonest(x, "0: he KNOWS already, whatever the HABIT", "0 6 0", "1", "0");
        NightLoom three = Edge.run("3: by NIGHT", "text l24,99,9,0,0,0;c0;n1,3;", "act 1");
        dueSoonest(three, "two NIGHTS in the first, one in the second", "0 1 1", "1", "2");
        NightLoom spent = Edge.run("3: by NIGHT", "text l24,1,9,0,0,0;c0;n1,1;n1,2;", "act 1");
        dueSoonest(spent, "by that NIGHT, though there is no YARN behind it", "0 6 1", "1", "1");
        dueSoonest(spent, "there is no YARN behind it", "1 6 1", "NONE", "NONE");
        NightLoom knows = Edge.run("3: by NIGHT", "text l24,99,9,0,0,0;c0;k1,1;", "act 0 0 0");
        dueSoonest(knows, "0: he KNOWS already", "0 0 0", "1", "0");
        // He who waits sees fewer two days behind each ninth one: on days 11, 20, .. 83. No run comes nearer to 200.
        NightLoom far = Edge.run("3: 200 at most", "text l7,99,7,9,0,0;c0;w1,9;");
        dueSoonest(far, "on DAY 83", "0 1 2", "1", "83");
    }

    private static void soonestEnds() {
        NightLoom four = Edge.run("3: it ends by YARN", "text l24,1,9,0,0,0;c0;n1,4;n1,5;");
        dueSoonest(four, "the third that is worn", "0 1 1", "1", "4");
        dueSoonest(four, "there is none for the fourth", "1 1 1", "NONE", "NONE");
        NightLoom done = Edge.run("3: behind the EVENING in which it is DONE", "text l4,99,9,0,0,0;c0;k1,1;n1,1;", "act 3");
        dueSoonest(done, "that NIGHT", "1 1 1", "1", "1");
        dueSoonest(done, "he looks in that EVENING, and 4 are more", "0 1 0", "NONE", "NONE");
        NightLoom again = Edge.run("3: behind the EVENING in which it is DONE", "text l4,99,9,0,0,0;c0;k1,1;n1,1;", "act 4 0");
        dueSoonest(again, "he looks in that EVENING, and 4 are no more", "0 6 9", "1", "1");
        dueSoonest(again, "its NIGHT does not come", "1 6 9", "NONE", "NONE");
        NightLoom blamed = Edge.run("3: BLAME and others aside", "text l24,99,9,0,1,9;c0;n1,1;k1,3;", "act 1 1 1");
        Edge.on(blamed, "BLAMED, and another KNOWS", "cloth 4 = 2", "count 5 = 1");
        dueSoonest(blamed, "all the same", "1 1 1", "1", "2");
    }

    private static void dueTwice(String law, String length, String first, String second) {
        Edge.run("3: TWICE of " + law, "text " + law, "twice 0 = " + length, "twice 1 = " + first, "twice 2 = " + second);
    }

    private static void stretches() {
        Edge.run("18: no LOOM ahead of BAD", "twice 0 = STATE", "twice -1 = STATE", "twice 3 = STATE");
        Edge.run("18: what is 0 to 2", FREE, "twice -1 = BAD", "twice 3 = BAD", "twice MIN = BAD", "twice MAX = BAD");
        dueTwice("l4,0,0,0,0,0;c0,1,2,3;", "0", "NONE", "NONE");
        dueTwice("l5,0,0,0,0,0;c0,1,2,3;", "1", "0", "4");
        dueTwice("l6,0,0,0,0,0;c0,1,2,3;", "2", "0", "4");
        dueTwice("l4,0,0,0,0,0;c0,1,2,2;", "1", "2", "3");
        dueTwice("l4,0,0,0,0,0;c0;", "3", "0", "1");
        dueTwice("l24,0,0,0,0,0;c0;", "23", "0", "1");
        dueTwice("l24,0,0,0,0,0;c0,1;", "22", "0", "2");
        dueTwice("l24,0,0,0,0,0;c0,0,0,0,0,0,0,1;", "16", "0", "8");
        dueTwice("l8,0,0,0,0,0;c0,1,2,0,1,3,0,1;", "2", "0", "3");
        dueTwice("l8,0,0,0,0,0;c3,0,1,2,0,1,2,2;", "3", "1", "4");
        dueTwice("l8,0,0,0,0,0;c0,0,1,2,2,3,1,3;", "1", "0", "1");
        Edge.run("18: nothing has to hang", "text l4,9,9,0,0,0;c0;", "twice 0 = 3", "act 4", "twice 0 = 3", "act 1",
            "twice 0 = 3");
        Edge.run("18: of the LOOM that stands", FREE, "twice 2 = 1", "text l4,0,0,0,0,0;c0,1,2,3;", "twice 0 = 0",
            "twice 1 = NONE", "twice 2 = NONE");
    }

    private static void lengths() {
        Edge.run("19: no LOOM ahead of BAD", "looks 0 = STATE", "looks -1 = STATE");
        Edge.run("19: BAD below 0; NONE: so many do not hang", "text l4,9,9,0,0,0;c0;", "looks -1 = BAD", "looks MIN = BAD",
            "looks 0 = 5", "looks 1 = NONE", "act 1", "looks 1 = 4", "looks 2 = NONE", "act 0 3", "looks 0 = 5", "looks 1 = 4",
            "looks 3 = 2", "looks 4 = 1", "looks 5 = NONE", "looks MAX = NONE", "act 1", "looks 4 = NONE", "looks 3 = 2");
        // 0 1 1 0 1 1 0: behind 1 1 there are 3, 6; behind 0 1 there are 2, 5; behind 1 0 there are 4, 7.
        Edge.run("3: the last k as they do now, k to LONG", "text l7,9,9,0,0,0;c0,1,1;", "act 2", "looks 0 = 8", "looks 1 = 4",
            "looks 2 = 2", "act 0 5", "looks 1 = 3", "looks 2 = 2", "looks 3 = 2", "looks 4 = 2", "looks 5 = 1", "looks 7 = 1");
    }

    private static void refusalsOfSeen() {
        Edge.run("20: no LOOM ahead of BAD", "seen 8 0 0 3 = STATE", "seen 0 0 1 0 = STATE", "row 0 0 1", "seen 0 0 1 0 = STATE");
        Edge.run("20: BAD: ROW, n, what", FREE, "row 0 0 8", "seen -1 0 1 0 = BAD", "seen 8 0 1 0 = BAD", "seen 0 0 0 0 = BAD",
            "seen 0 0 -1 0 = BAD", "seen 0 0 9 0 = BAD", "seen 0 0 MIN 0 = BAD", "seen 0 0 MAX 0 = BAD", "seen 0 0 1 -1 = BAD",
            "seen 0 0 1 3 = BAD", "seen 0 0 1 0 = 1", "seen 0 0 8 0 = 1", "seen 0 0 8 2 = 0");
        Edge.run("20: BAD, then NULL, then PLACE, then BAD", FREE, "seen 1 -1 9 0 = BAD", "seen 1 -1 1 3 = BAD",
            "seen 1 -1 1 0 = NULL", "status = 1", "row 1 2 3", "set 1 2 25", "seen 1 2 2 0 = PLACE", "status = 2",
            "seen 1 2 1 0 = BAD", "status = 2", "seen 1 0 1 0 = 1", "status = 0");
        Edge.run("20: PLACE", FREE, "row 0 0 8", "row 1 0 0", "seen 0 0 8 0 = 1", "seen 0 1 8 0 = PLACE", "seen 0 1 7 0 = 1",
            "seen 0 7 1 0 = 1", "seen 0 8 1 0 = PLACE", "seen 0 -1 1 0 = PLACE", "seen 0 MIN 1 0 = PLACE",
            "seen 0 MAX 8 0 = PLACE", "seen 1 0 1 0 = PLACE", "row 2 0 40", "seen 2 32 8 0 = 1", "seen 2 33 8 0 = PLACE");
    }

    private static void itemsOfSeen() {
        Edge.run("20: an ITEM not 0 to LONG", "text l4,9,9,0,0,0;c0;", "row 0 2 5", "set 0 0 4", "set 0 1 5", "set 0 2 -1",
            "set 0 3 MIN", "set 0 4 MAX", "seen 0 0 1 0 = 1", "seen 0 1 1 0 = BAD", "seen 0 2 1 0 = BAD", "seen 0 3 1 0 = BAD",
            "seen 0 4 1 0 = BAD", "seen 0 0 2 0 = BAD", "seen 0 0 5 2 = BAD", "set 0 1 0", "seen 0 0 2 0 = 1",
            "seen 0 0 3 0 = BAD");
        Edge.run("20: only those of the n EVENINGS", "text l4,9,9,0,0,0;c0;", "row 0 2 3", "set 0 0 9", "set 0 2 9",
            "seen 0 1 1 0 = 1", "seen 0 0 2 0 = BAD", "seen 0 1 2 0 = BAD");
        Edge.run("20: a byte is what it is then", "text l4,9,9,0,0,0;c0;", "row 0 0 1", "set 0 0 258 = 2", "seen 0 0 1 0 = 1",
            "set 0 0 255 = -1", "seen 0 0 1 0 = BAD");
    }

    /** A ROW 0 with these ITEMS. */
    private static void rowOf(NightLoom x, int... items) {
        Edge.on(x, "row", "row 0 2 " + items.length);
        for (int i = 0; i < items.length; i++) {
            Edge.on(x, "row", "set 0 " + i + " " + items[i] + " = " + items[i]);
        }
    }

    private static void dueSeen(NightLoom x, String sentence, int ways, String inAll, String inSome, int... items) {
        rowOf(x, items);
        String call = "seen 0 0 " + items.length;
        Edge.on(x, sentence, call + " 0 = " + ways, call + " 1 = " + inAll, call + " 2 = " + inSome);
    }

    private static void wovenAndUndone() {
        NightLoom x = Edge.run("SEEN", "text l24,0,3,0,0,0;c0;");
        dueSeen(x, "3: WOVEN 0 to 6; YARN aside", 1, "0", "0", 0);
        dueSeen(x, "3: WOVEN 0 to 6", 1, "0", "0", 6);
        dueSeen(x, "3: WOVEN 0 to 6", 0, "NONE", "NONE", 7);
        dueSeen(x, "3: WOVEN 0 to 6 on the next DAY", 1, "0", "0", 6, 12);
        dueSeen(x, "3: WOVEN 0 to 6 on the next DAY", 0, "NONE", "NONE", 6, 13);
        dueSeen(x, "3: 5 with none undone, or 6 with one", 2, "0", "1", 6, 11);
        dueSeen(x, "3: TIRED", 1, "1", "1", 6, 3);
        dueSeen(x, "3: TIRED", 0, "NONE", "NONE", 6, 2);
        dueSeen(x, "3: TIRED", 4, "0", "1", 6, 6);
        dueSeen(x, "3: what hung", 1, "0", "0", 0, 0);
        dueSeen(x, "3: what hung", 2, "0", "1", 1, 1);
        dueSeen(x, "3: what hung", 1, "1", "1", 2, 0);
        dueSeen(x, "3: what hung", 1, "0", "0", 0, 6);
        dueSeen(x, "3: what hung", 0, "NONE", "NONE", 0, 7);
        NightLoom some = Edge.run("SEEN", "text l8,9,9,0,0,0;c0;", "act 3 0");
        dueSeen(some, "3: by DAY the first is yet to come", 0, "NONE", "NONE", 2);
        dueSeen(some, "3: by DAY the first is yet to come", 1, "0", "0", 3);
        dueSeen(some, "3: by DAY, LONG at most", 1, "0", "0", 8);
        Edge.on(some, "by NIGHT", "act 2");
        dueSeen(some, "3: in the NIGHT it is the one that was", 0, "NONE", "NONE", 4);
        dueSeen(some, "3: in the NIGHT it is the one that was", 1, "0", "0", 5);
        dueSeen(some, "3: in the NIGHT it is the one that was", 0, "NONE", "NONE", 6);
        dueSeen(some, "3: in the NIGHT it is the one that was", 1, "1", "1", 5, 0);
        dueSeen(some, "3: in the NIGHT it is the one that was", 0, "NONE", "NONE", 6, 0);
    }

    private static void nightsBetween() {
        NightLoom x = Edge.run("SEEN", "text l24,99,9,0,0,0;c0;", "act 6 0");
        // Each night one more is undone than is woven: 1 to 7 by seven ways, of 6 that hang 1 to 6.
        dueSeen(x, "3: bits, 0 the first of those between", 705894, "127", "127", 12, 11, 10, 9, 8, 7, 6, 5);
        dueSeen(x, "3: bits, 0 the first of those between", 1, "0", "0", 6, 12, 18, 24);
        dueSeen(x, "3: in all, in some", 7, "2", "2", 12, 18, 16);
        dueSeen(x, "3: in all, in some", 14, "2", "3", 12, 17, 16);
        dueSeen(x, "3: no way at the end leaves none", 0, "NONE", "NONE", 12, 11, 18, 10, 0);
        dueSeen(x, "3: no way at first leaves none", 0, "NONE", "NONE", 5, 4, 3);
        NightLoom wide = Edge.run("SEEN", "text l24,0,9,0,0,0;c0;");
        dueSeen(wide, "20: the most ways", 823543, "0", "127", 6, 6, 6, 6, 6, 6, 6, 6);
        NightLoom moon = Edge.run("SEEN", "text l24,99,9,2,0,0;c0;");
        dueSeen(moon, "3: MOON on DAY 2", 4, "0", "1", 3, 3, 3);
        dueSeen(moon, "3: MOON on DAY 2", 0, "NONE", "NONE", 3, 3, 2);
        dueSeen(moon, "3: MOON on DAY 2, not on DAYS 1 and 3", 6, "5", "5", 3, 2, 2, 1);
        NightLoom third = Edge.run("SEEN", "text l24,99,9,3,0,0;c0;", "act 3 0");
        dueSeen(third, "3: MOON on DAY 3, not on DAYS 2 and 4", 6, "5", "5", 3, 2, 2, 1);
        dueSeen(third, "3: MOON on DAY 3", 0, "NONE", "NONE", 3, 2, 1);
        Edge.on(moon, "by NIGHT of DAY 1", "act 3");
        dueSeen(moon, "3: MOON on DAY 2", 0, "NONE", "NONE", 3, 2, 1);
        dueSeen(moon, "3: MOON on DAY 2", 3, "1", "1", 3, 2, 2);
        Edge.on(moon, "by DAY 2", "act 0");
        dueSeen(moon, "3: MOON on DAY 2", 0, "NONE", "NONE", 3, 2);
        Edge.on(moon, "by NIGHT of DAY 2", "act 0");
        dueSeen(moon, "3: MOON on DAY 2", 0, "NONE", "NONE", 3, 2);
        dueSeen(moon, "3: MOON on DAY 2", 1, "0", "0", 3, 3);
    }
}
