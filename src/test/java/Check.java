/** What the tests share: answers that are due, texts that are fed, and the closing line. */
final class Check {
    static final int NULL = -1000011, PLACE = -1000012, KIND = -1000013, SIZE = -1000014, STORE = -1000015;

    /** 12 threads, 40 of yarn, 3 undone at most, moonless each 4th night, a feast each 5th day for 2 more. */
    static final String LAW = "l12,40,3,4,5,2;c0,1,1,2,0,1;";
    static final String FIVE = LAW + "k1,3;p2,2;w1,2;n3,2;m2,1;";

    private static int right = 0;
    private static int wrong = 0;

    private Check() { }

    static void due(String call, int got, int want) {
        if (got == want) {
            right++;
        } else {
            wrong++;
            System.out.println(call + " answered " + got + ", due is " + want);
        }
    }

    static void isTrue(String what, boolean holds) {
        due(what, holds ? 1 : 0, 1);
    }

    static void feed(NightLoom x, String text) {
        for (int i = 0; i < text.length(); i++) {
            due("feed of " + text + " at " + i, x.feed(text.charAt(i)), x.count(7));
        }
    }

    static int read(NightLoom x, String text) {
        feed(x, text);
        return x.loom();
    }

    static NightLoom loomOf(String text) {
        NightLoom x = new NightLoom();
        isTrue("reads " + text, read(x, text) >= 0);
        return x;
    }

    /** Weaves and unpicks in turn, as it is by day or by night; all must be accepted. */
    static void act(NightLoom x, int... threads) {
        for (int n : threads) {
            boolean night = x.cloth(5) == 1;
            int due = x.cloth(0) + (night ? -n : n);
            due((night ? "unpick " : "weave ") + n, night ? x.unpick(n) : x.weave(n), due);
        }
    }

    static void end() {
        System.out.println(right + " answers as due, " + wrong + " not");
        if (wrong != 0) {
            System.exit(1);
        }
    }
}
