import java.util.Arrays;
import java.util.Random;

/** Long runs of calls, each answer held against the model's; the seeds are fixed, so every run is the same. */
public final class ModelTest {
    private static final int RUNS = 400, CALLS = 512;

    private final Random chance;
    private final NightLoom x = new NightLoom();
    private final Model model = new Model();
    private final int run;
    private int calls = 0;

    private ModelTest(int run) {
        this.run = run;
        chance = new Random(run * 7919L + 17);
    }

    public static void main(String[] args) {
        for (int run = 0; run < RUNS; run++) {
            ModelTest t = new ModelTest(run);
            while (t.calls < CALLS) {
                t.goOn();
            }
        }
        Check.end();
    }

    private void goOn() {
        int turn = chance.nextInt(40);
        if (calls == 0 && run % 8 != 0 || turn == 0) {
            text();
        } else if (turn < 20) {
            act();
        } else if (turn < 24) {
            rows();
        } else if (turn < 30) {
            foretell();
        } else if (turn < 32) {
            evenings();
        } else if (turn < 34) {
            call("image", "restore", number(0, 1));
        } else {
            look();
        }
    }

    /** A number of a range; now and then one beside it, or far from it. */
    private int number(int least, int most) {
        int turn = chance.nextInt(60);
        if (turn == 0) {
            return least - 1;
        }
        if (turn == 1) {
            return most + 1;
        }
        if (turn == 2) {
            int[] far = {Integer.MIN_VALUE, Integer.MAX_VALUE, -1000000, 1 << 20};
            return far[chance.nextInt(far.length)];
        }
        return least + chance.nextInt(most - least + 1);
    }

    private int within(int least, int most) {
        return least + chance.nextInt(most - least + 1);
    }

    private void text() {
        StringBuilder t = new StringBuilder("l").append(within(4, chance.nextBoolean() ? 8 : 24));
        t.append(',').append(within(0, 99)).append(',').append(within(0, 9)).append(',').append(within(0, 9));
        t.append(',').append(within(0, 9)).append(',').append(within(0, chance.nextBoolean() ? 1 : 9)).append(";c");
        int colours = within(1, 8);
        int kinds = within(0, 3);
        for (int i = 0; i < colours; i++) {
            t.append(i == 0 ? "" : ",").append(within(0, kinds));
        }
        t.append(';');
        int suitors = within(0, 5);
        for (int i = 0; i < suitors; i++) {
            t.append("kpwnm".charAt(within(0, 4))).append(within(1, chance.nextBoolean() ? 2 : 9));
            t.append(',').append(within(1, 9)).append(';');
        }
        if (chance.nextInt(4) == 0) {
            spoil(t);
        }
        for (int i = 0; i < t.length(); i++) {
            call("feed", t.charAt(i));
        }
        if (chance.nextInt(10) != 0) {
            call("loom");
            call("fault");
        }
    }

    private void spoil(StringBuilder t) {
        int at = chance.nextInt(t.length());
        String others = "0123456789,;,;lckpwnmx A*";
        char other = others.charAt(chance.nextInt(others.length()));
        switch (chance.nextInt(6)) {
            case 0: t.setCharAt(at, other); break;
            case 1: t.insert(at, other); break;
            case 2: t.deleteCharAt(at); break;
            case 3: t.setLength(at); break;
            case 4: t.insert(at, within(0, 999)); break;
            default: t.append("k1,1;p1,1;w1,1;n1,1;m1,1;k1,1;"); break;
        }
    }

    private void act() {
        if (chance.nextInt(12) == 0) {
            int more = chance.nextInt(20) == 0 ? 26 : within(1, 4);
            for (int i = 0; i < more; i++) {
                call("undo");
            }
        } else if (x.cloth(5) == 1 && chance.nextInt(10) != 0) {
            call("unpick", number(0, chance.nextBoolean() ? 2 : 9));
        } else {
            call("weave", number(0, chance.nextBoolean() ? 2 : 6));
        }
    }

    private void rows() {
        int turn = chance.nextInt(8);
        if (turn < 2) {
            call("row", number(0, 3), number(0, 2), chance.nextInt(9) == 0 ? number(0, 40) : number(4, 12));
        } else if (turn < 5) {
            call("set", number(0, 3), number(0, 11), chance.nextInt(9) == 0 ? chance.nextInt() : number(0, 24));
        } else if (turn < 7) {
            call("copy", number(0, 3), number(0, 11), number(0, 3), number(0, 11), number(0, 6));
        } else if (chance.nextInt(4) == 0) {
            call("drop", number(0, 3));
        }
        call("status");
    }

    private void foretell() {
        int a = number(0, 6);
        int b = number(0, 9);
        switch (chance.nextInt(6)) {
            case 0: case 1:
                for (int what = 0; what < 3; what++) {
                    call("holds", a, b, what);
                }
                break;
            case 2:
                if (chance.nextInt(4) == 0) {
                    call("longest", number(0, 2));
                }
                break;
            case 3: {
                int suitor = number(0, 4);
                call("soonest", suitor, a, b, 0);
                call("soonest", suitor, a, b, number(0, 1));
                break;
            }
            case 4: call("twice", number(0, 2)); break;
            default: call("looks", number(0, 8)); break;
        }
    }

    /** Evenings that could be: what hung before, some undone, some woven. */
    private void evenings() {
        int row = number(0, 3);
        int n = number(1, chance.nextInt(6) == 0 ? 8 : 5);
        int i = number(0, 3);
        int hang = Math.max(0, x.cloth(0));
        if (chance.nextInt(5) != 0 && n >= 1 && n <= 8 && i >= 0 && i <= 3) {
            call("row", row, within(0, 2), i + n);
            for (int k = 0; k < n; k++) {
                int undone = k == 0 ? 0 : chance.nextInt(5);
                int woven = k == 0 && x.cloth(5) == 1 ? 0 : chance.nextInt(5);
                hang = Math.max(0, hang - undone) + woven;
                call("set", row, i + k, hang);
            }
        }
        for (int what = 0; what < 3; what++) {
            call("seen", row, i, n, what);
        }
        call("status");
    }

    private void look() {
        int suitor = number(0, 4);
        switch (chance.nextInt(8)) {
            case 0: call("cloth", number(0, 6)); break;
            case 1: call("colour", number(0, 23)); break;
            case 2: case 3: call("suitor", suitor, number(0, 4)); break;
            case 4: call("count", number(0, 7)); break;
            case 5: call("kind", suitor); break;
            case 6:
                call("as", suitor, number(0, 5));
                call("status");
                break;
            default:
                call("ask", suitor, number(0, 1));
                for (int i = 0; i < 6; i++) {
                    call("trace", i);
                }
                call("trace", number(0, 15));
                break;
        }
    }

    private void call(String one, String other, int v) {
        call(chance.nextInt(3) > 0 ? one : other, v);
    }

    private void call(String name, int... v) {
        if (calls == CALLS) {
            return;
        }
        calls++;
        String told = "run " + run + ", call " + calls + ": " + name + Arrays.toString(v);
        Check.due(told, Calls.answer(x, name, v), model.call(name, v));
    }
}
