import java.util.ArrayDeque;
import java.util.ArrayList;
import java.util.Arrays;
import java.util.Deque;
import java.util.List;

/** The document once more, written without regard to the program: slow, thread by thread and way by way. */
final class Model {
    static final int NONE = -1000000, BAD = -1000001, STATE = -1000002, FULL = -1000003;

    /** The whole LOOM: what is told and what changes. */
    static final class Loom {
        int[] law = new int[6];
        List<Integer> colours = new ArrayList<>();
        List<Suitor> suitors = new ArrayList<>();
        int day = 1, hang = 0, high = 0, wear = 0, yarn = 0, blamed = 0, feastHang = 0;
        boolean night = false;

        Loom twin() {
            Loom t = new Loom();
            t.law = law.clone();
            t.colours = new ArrayList<>(colours);
            for (Suitor s : suitors) {
                t.suitors.add(s.twin());
            }
            t.day = day;
            t.hang = hang;
            t.high = high;
            t.wear = wear;
            t.yarn = yarn;
            t.blamed = blamed;
            t.feastHang = feastHang;
            t.night = night;
            return t;
        }

        int most() { return law[0]; }

        String look(int from, int to) {
            StringBuilder b = new StringBuilder();
            for (int i = from; i < to; i++) {
                b.append(colours.get(i % colours.size()));
            }
            return b.toString();
        }

        boolean weaves(int n) {
            for (int k = 0; k < n; k++) {
                if (hang >= high) {
                    yarn--;
                    high++;
                } else {
                    wear++;
                    if (wear % 4 == 0) {
                        yarn--;
                    }
                }
                hang++;
            }
            return yarn >= 0;
        }

        void evening() {
            for (Suitor s : suitors) {
                if (day % s.every == 0) {
                    s.evening(this);
                }
            }
            if (law[4] != 0 && day % law[4] == 0) {
                if (!(hang >= feastHang + law[5])) {
                    blamed++;
                }
                feastHang = hang;
            }
            night = true;
        }

        boolean mayUndo(int n) {
            boolean moonless = law[3] != 0 && day % law[3] == 0;
            return n == 0 || !moonless && n <= law[2] && n <= hang;
        }

        void undoes(int n) {
            hang -= n;
            for (Suitor s : suitors) {
                if (day % s.every == 0) {
                    s.night(n);
                }
            }
            day++;
            night = false;
        }

        void undoesBy(int b) {
            int n = b;
            while (!mayUndo(n)) {
                n--;
            }
            undoes(n);
        }

        int firstWhoKnows() {
            for (Suitor s : suitors) {
                if (s.knows()) {
                    return s.number;
                }
            }
            return NONE;
        }
    }

    static class Suitor {
        int number, every, limit, doubts = 0, last = NONE;
        char sort;
        List<Integer> trace;

        static Suitor of(char sort) {
            Suitor s;
            switch (sort) {
                case 'k': s = new Counter(); break;
                case 'p': s = new Painter(); break;
                case 'w': s = new Waiting(); break;
                case 'n': s = new Candle(); break;
                default: s = new Maid(); break;
            }
            s.sort = sort;
            return s;
        }

        Suitor twin() {
            Suitor t = of(sort);
            t.number = number;
            t.every = every;
            t.limit = limit;
            t.doubts = doubts;
            t.last = last;
            return t;
        }

        boolean knows() { return doubts >= limit; }

        void evening(Loom l) { }

        void night(int undone) { }

        int size() {
            trace.add(10);
            return doubts;
        }

        int mark() {
            trace.add(20);
            return number;
        }
    }

    static class Counter extends Suitor {
        boolean finds(Loom l) { return !(l.hang > last); }

        @Override void evening(Loom l) {
            if (last != NONE && finds(l)) {
                doubts++;
            }
            last = l.hang;
        }

        @Override int size() {
            trace.add(11);
            int lent = super.size();
            return lent + mark();
        }

        @Override int mark() {
            trace.add(21);
            return super.mark() + limit;
        }
    }

    static final class Painter extends Counter {
        @Override boolean finds(Loom l) {
            return last >= 2 && l.hang >= 2
                && l.look(last - 2, last).equals(l.look(l.hang - 2, l.hang));
        }

        @Override int size() {
            trace.add(12);
            return 0 - super.size();
        }

        @Override int mark() {
            trace.add(24);
            return super.mark() * 2;
        }
    }

    static final class Waiting extends Counter {
        @Override boolean finds(Loom l) { return l.hang < last; }

        @Override int mark() {
            trace.add(22);
            return super.mark() - 1000;
        }
    }

    static class Candle extends Suitor {
        @Override void night(int undone) { doubts += undone >= 1 ? 1 : 0; }

        @Override int size() {
            trace.add(13);
            return super.size() - 100;
        }

        @Override int mark() {
            trace.add(23);
            int lent = super.mark();
            return lent - size();
        }
    }

    static final class Maid extends Candle {
        @Override void night(int undone) { doubts += undone >= 2 ? 1 : 0; }

        @Override int size() {
            trace.add(14);
            return super.size() * 2;
        }
    }

    static final Class<?>[] KINDS =
        {Suitor.class, Counter.class, Painter.class, Waiting.class, Candle.class, Maid.class};

    private final int[][] rows = new int[8][];
    private final int[] lanes = new int[8];
    private StringBuilder tape = new StringBuilder();
    private Loom loom = null;
    private final Deque<Loom> past = new ArrayDeque<>();
    private final Loom[] images = new Loom[2];
    private List<Integer> trace = new ArrayList<>();
    private int fault = 0;
    private int status = 0;

    int call(String name, int... v) {
        switch (name) {
            case "row": return row(v[0], v[1], v[2]);
            case "set": return set(v[0], v[1], v[2]);
            case "copy": return copy(v[0], v[1], v[2], v[3], v[4]);
            case "drop": return drop(v[0]);
            case "feed": return feed(v[0]);
            case "loom": return read();
            case "fault": return fault;
            case "weave": return weave(v[0]);
            case "unpick": return unpick(v[0]);
            case "undo": return undo();
            case "cloth": return cloth(v[0]);
            case "colour": return colour(v[0]);
            case "suitor": return suitor(v[0], v[1]);
            case "holds": return holds(v[0], v[1], v[2]);
            case "longest": return longest(v[0]);
            case "soonest": return soonest(v[0], v[1], v[2], v[3]);
            case "twice": return twice(v[0]);
            case "looks": return looks(v[0]);
            case "seen": return seen(v[0], v[1], v[2], v[3]);
            case "image": return image(v[0]);
            case "restore": return restore(v[0]);
            case "kind": return kind(v[0]);
            case "as": return as(v[0], v[1]);
            case "ask": return ask(v[0], v[1]);
            case "trace": return v[0] >= 0 && v[0] < Math.min(16, trace.size()) ? trace.get(v[0]) : NONE;
            case "count": return count(v[0]);
            case "status": return status;
            default: throw new IllegalArgumentException(name);
        }
    }

    private static boolean in(int v, int least, int most) { return least <= v && v <= most; }

    private int finds(int finding) {
        status = finding;
        return -1000010 - finding;
    }

    private int fine(int answer) {
        status = 0;
        return answer;
    }

    private int row(int row, int lane, int n) {
        if (!in(row, 0, 7) || !in(lane, 0, 2) || n > 40) {
            return BAD;
        }
        if (n < 0) {
            return finds(4);
        }
        rows[row] = new int[n];
        lanes[row] = lane;
        return fine(n);
    }

    private int set(int row, int i, int v) {
        if (!in(row, 0, 7)) {
            return BAD;
        }
        if (rows[row] == null) {
            return finds(1);
        }
        if (!in(i, 0, rows[row].length - 1)) {
            return finds(2);
        }
        int bits = 32 - new int[] {8, 16, 32}[lanes[row]];
        rows[row][i] = v << bits >> bits;
        return fine(rows[row][i]);
    }

    private int copy(int a, int i, int b, int j, int n) {
        if (!in(a, 0, 7) || !in(b, 0, 7)) {
            return BAD;
        }
        if (rows[a] == null || rows[b] == null) {
            return finds(1);
        }
        if (lanes[a] != lanes[b]) {
            return finds(5);
        }
        if (i < 0 || j < 0 || n < 0 || (long) i + n > rows[a].length || (long) j + n > rows[b].length) {
            return finds(2);
        }
        int[] ahead = rows[a].clone();
        for (int k = 0; k < n; k++) {
            rows[b][j + k] = ahead[i + k];
        }
        return fine(n);
    }

    private int drop(int row) {
        if (!in(row, 0, 7)) {
            return BAD;
        }
        if (rows[row] == null) {
            return finds(1);
        }
        int had = rows[row].length;
        rows[row] = null;
        return fine(had);
    }

    private int feed(int letter) {
        if (!in(letter, 0, 255)) {
            return BAD;
        }
        if (tape.length() == 120) {
            return FULL;
        }
        tape.append((char) letter);
        return tape.length();
    }

    /** A fault of the text: {number, place}. */
    private static final class Fault extends Exception {
        private static final long serialVersionUID = 1;
        final int number, place;

        Fault(int number, int place) {
            this.number = number;
            this.place = place;
        }
    }

    /** The text is cut into tokens first; each is then held against what may stand there. */
    private static final class Text {
        final List<String> tokens = new ArrayList<>();
        final List<Integer> places = new ArrayList<>();
        int at = 0;

        Text(String tape) {
            for (int i = 0; i < tape.length(); ) {
                String rest = tape.substring(i);
                String behind = rest.replaceFirst("(?s)^([0-9]+|.)", "");
                String token = rest.substring(0, rest.length() - behind.length());
                tokens.add(token);
                places.add(i);
                i += token.length();
            }
            tokens.add("");
            places.add(tape.length());
        }

        String now() { return tokens.get(at); }

        Fault fault(int number) { return new Fault(number, places.get(at)); }

        String take(String allowed) throws Fault {
            if (!now().matches(allowed)) {
                throw fault(1);
            }
            return tokens.get(at++);
        }

        int number(int least, int most, boolean room) throws Fault {
            if (!now().matches("[0-9]{1,2}")) {
                throw fault(1);
            }
            int v = Integer.parseInt(now());
            if (!in(v, least, most)) {
                throw fault(2);
            }
            if (!room) {
                throw fault(3);
            }
            at++;
            return v;
        }
    }

    private static Loom parse(String tape) throws Fault {
        Text t = new Text(tape);
        Loom l = new Loom();
        int[] least = {4, 0, 0, 0, 0, 0};
        int[] most = {24, 99, 9, 9, 9, 9};
        t.take("l");
        for (int i = 0; i < 6; i++) {
            l.law[i] = t.number(least[i], most[i], true);
            t.take(i < 5 ? "," : ";");
        }
        l.yarn = l.law[1];
        t.take("c");
        do {
            l.colours.add(t.number(0, 3, l.colours.size() < 8));
        } while (t.take("[,;]").equals(","));
        while (!t.now().isEmpty()) {
            if (t.now().matches("[kpwnm]") && l.suitors.size() == 5) {
                throw t.fault(3);
            }
            Suitor s = Suitor.of(t.take("[kpwnm]").charAt(0));
            s.number = l.suitors.size();
            s.every = t.number(1, 9, true);
            t.take(",");
            s.limit = t.number(1, 9, true);
            t.take(";");
            l.suitors.add(s);
        }
        return l;
    }

    private int read() {
        String text = tape.toString();
        tape = new StringBuilder();
        try {
            loom = parse(text);
        } catch (Fault f) {
            fault = f.number;
            return -1000100 - f.place;
        }
        past.clear();
        return loom.suitors.size();
    }

    private void keep() {
        past.addLast(loom.twin());
        if (past.size() > 24) {
            past.removeFirst();
        }
    }

    private int weave(int n) {
        if (loom == null) {
            return STATE;
        }
        if (!in(n, 0, 6)) {
            return BAD;
        }
        if (loom.night || loom.hang + n > loom.most() || !loom.twin().weaves(n)) {
            return STATE;
        }
        keep();
        loom.weaves(n);
        loom.evening();
        return loom.hang;
    }

    private int unpick(int n) {
        if (loom == null) {
            return STATE;
        }
        if (!in(n, 0, 9)) {
            return BAD;
        }
        if (!loom.night || !loom.mayUndo(n)) {
            return STATE;
        }
        if (loom.day == 999) {
            return FULL;
        }
        keep();
        loom.undoes(n);
        return loom.hang;
    }

    private int undo() {
        if (past.isEmpty()) {
            return STATE;
        }
        loom = past.removeLast();
        return past.size();
    }

    private int cloth(int what) {
        if (loom == null) {
            return STATE;
        }
        int[] told = {loom.hang, loom.high, loom.wear, loom.yarn, loom.blamed,
            loom.night ? 1 : 0, loom.hang == loom.most() ? 1 : 0};
        return in(what, 0, 6) ? told[what] : BAD;
    }

    private int colour(int place) {
        return loom != null && in(place, 0, loom.most() - 1) ? loom.look(place, place + 1).charAt(0) - '0' : BAD;
    }

    private boolean isSuitor(int suitor) {
        return loom != null && in(suitor, 0, loom.suitors.size() - 1);
    }

    private int suitor(int suitor, int what) {
        if (!isSuitor(suitor) || !in(what, 0, 4)) {
            return BAD;
        }
        Suitor s = loom.suitors.get(suitor);
        return new int[] {s.every, s.limit, s.doubts, s.knows() ? 1 : 0, s.last}[what];
    }

    private int[] habit(int a, int b) {
        Loom l = loom.twin();
        if (l.night) {
            l.undoesBy(b);
            if (l.firstWhoKnows() != NONE) {
                return new int[] {0, 4, l.firstWhoKnows()};
            }
        }
        for (int days = 0; days < 200; days++) {
            int blamed = l.blamed;
            boolean yarn = l.weaves(Math.min(a, l.most() - l.hang));
            boolean done = l.hang == l.most();
            l.evening();
            boolean blame = l.blamed != blamed;
            l.undoesBy(b);
            int ends = !yarn ? 1 : done ? 2 : blame ? 3 : l.firstWhoKnows() != NONE ? 4 : 0;
            if (ends != 0) {
                return new int[] {days, ends, ends == 4 ? l.firstWhoKnows() : NONE};
            }
        }
        return new int[] {200, 0, NONE};
    }

    private int holds(int a, int b, int what) {
        if (loom == null) {
            return STATE;
        }
        return in(a, 0, 6) && in(b, 0, 9) && in(what, 0, 2) ? habit(a, b)[what] : BAD;
    }

    private int longest(int what) {
        if (loom == null) {
            return STATE;
        }
        if (!in(what, 0, 2)) {
            return BAD;
        }
        int[] best = {-1, -1, -1};
        for (int a = 0; a <= 6; a++) {
            for (int b = 0; b <= 9; b++) {
                int days = habit(a, b)[0];
                if (days > best[2]) {
                    best = new int[] {a, b, days};
                }
            }
        }
        return best[what];
    }

    /** How many days till the suitor knows, looking each so many days; a large number, if never. */
    private int daysBy(int every, int suitor, int a, int b) {
        Loom l = loom.twin();
        Suitor s = l.suitors.get(suitor);
        s.every = every;
        boolean nightFirst = l.night;
        if (s.knows()) {
            return 0;
        }
        for (int days = 1; days <= 200; days++) {
            if (nightFirst) {
                nightFirst = false;
                l.undoesBy(b);
                if (s.knows()) {
                    return days;
                }
            }
            if (!l.weaves(Math.min(a, l.most() - l.hang))) {
                return 1000;
            }
            l.evening();
            if (!s.knows() && l.hang == l.most()) {
                return 1000;
            }
            if (l.hang != l.most()) {
                l.undoesBy(b);
            }
            if (s.knows()) {
                return days;
            }
        }
        return 1000;
    }

    private int soonest(int suitor, int a, int b, int what) {
        if (!isSuitor(suitor) || !in(a, 0, 6) || !in(b, 0, 9) || !in(what, 0, 1)) {
            return BAD;
        }
        int[] best = {NONE, 1000};
        for (int every = 9; every >= 1; every--) {
            int days = daysBy(every, suitor, a, b);
            if (days < 1000 && days <= best[1]) {
                best = new int[] {every, days};
            }
        }
        return best[0] == NONE ? NONE : best[what];
    }

    private int twice(int what) {
        if (loom == null) {
            return STATE;
        }
        if (!in(what, 0, 2)) {
            return BAD;
        }
        String all = loom.look(0, loom.most());
        for (int length = all.length() - 1; length > 0; length--) {
            for (int i = 0; i + length <= all.length(); i++) {
                int j = all.indexOf(all.substring(i, i + length), i + 1);
                if (j >= 0) {
                    return new int[] {length, i, j}[what];
                }
            }
        }
        return what == 0 ? 0 : NONE;
    }

    private int looks(int k) {
        if (loom == null) {
            return STATE;
        }
        if (k < 0) {
            return BAD;
        }
        if (k > loom.hang) {
            return NONE;
        }
        int lengths = 0;
        for (int length = k; length <= loom.most(); length++) {
            if (loom.look(0, length).endsWith(loom.look(loom.hang - k, loom.hang))) {
                lengths++;
            }
        }
        return lengths;
    }

    private int seen(int row, int i, int n, int what) {
        if (loom == null) {
            return STATE;
        }
        if (!in(row, 0, 7) || !in(n, 1, 8) || !in(what, 0, 2)) {
            return BAD;
        }
        if (rows[row] == null) {
            return finds(1);
        }
        if (i < 0 || (long) i + n > rows[row].length) {
            return finds(2);
        }
        int[] hung = Arrays.copyOfRange(rows[row], i, i + n);
        for (int h : hung) {
            if (!in(h, 0, loom.most())) {
                return BAD;
            }
        }
        int[] told = {0, 255, 0};
        if (loom.night) {
            if (hung[0] == loom.hang) {
                tellWays(hung, 0, 0, told);
            }
        } else {
            for (int w = 0; w <= 6; w++) {
                if (loom.hang + w == hung[0]) {
                    tellWays(hung, 0, 0, told);
                }
            }
        }
        told[1] &= (1 << n - 1) - 1;
        return fine(what > 0 && told[0] == 0 ? NONE : told[what]);
    }

    /** Each way by itself; told: how many, nights in all, nights in some. */
    private void tellWays(int[] hung, int evening, int nights, int[] told) {
        if (evening == hung.length - 1) {
            told[0]++;
            told[1] &= nights;
            told[2] |= nights;
            return;
        }
        Loom then = loom.twin();
        then.day = loom.day + evening;
        then.hang = hung[evening];
        for (int u = 0; u <= 9; u++) {
            for (int w = 0; w <= 6; w++) {
                if (then.mayUndo(u) && hung[evening] - u + w == hung[evening + 1]) {
                    tellWays(hung, evening + 1, nights | (u > 0 ? 1 << evening : 0), told);
                }
            }
        }
    }

    private int image(int k) {
        if (!in(k, 0, 1)) {
            return BAD;
        }
        if (loom == null) {
            return STATE;
        }
        images[k] = loom.twin();
        return 1;
    }

    private int restore(int k) {
        if (!in(k, 0, 1)) {
            return BAD;
        }
        if (images[k] == null) {
            return STATE;
        }
        loom = images[k].twin();
        past.clear();
        return 1;
    }

    private int kind(int suitor) {
        return isSuitor(suitor) ? "?kpwnm".indexOf(loom.suitors.get(suitor).sort) : BAD;
    }

    private int as(int suitor, int kind) {
        if (!isSuitor(suitor) || !in(kind, 0, 5)) {
            return BAD;
        }
        return KINDS[kind].isInstance(loom.suitors.get(suitor)) ? fine(suitor) : finds(3);
    }

    private int ask(int suitor, int what) {
        if (!isSuitor(suitor) || !in(what, 0, 1)) {
            return BAD;
        }
        trace = new ArrayList<>();
        Suitor s = loom.suitors.get(suitor);
        s.trace = trace;
        return what == 0 ? s.size() : s.mark();
    }

    private int count(int what) {
        int there = 0;
        for (int[] r : rows) {
            there += r == null ? 0 : 1;
        }
        int know = 0;
        if (loom != null) {
            for (Suitor s : loom.suitors) {
                know |= s.knows() ? 1 << s.number : 0;
            }
        }
        boolean stands = loom != null;
        int[] told = {there, stands ? loom.most() : 0, stands ? loom.colours.size() : 0,
            stands ? loom.suitors.size() : 0, stands ? loom.day : 0, know, past.size(), tape.length()};
        return in(what, 0, 7) ? told[what] : BAD;
    }
}
