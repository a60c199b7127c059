/** Undone by night: a loom, its suitors, and what can be foretold of them. */
public final class NightLoom {
    public static final int NONE = -1000000, BAD = -1000001, STATE = -1000002, FULL = -1000003;

    private static final int FINDINGS = -1000010, FAULTS = -1000100;
    private static final int NULL = 1, PLACE = 2, KIND = 3, SIZE = 4, STORE = 5;
    private static final int ROWS = 8, LANES = 3, ITEMS = 40, TAPE = 120;
    private static final int COLOURS = 8, SUITORS = 5, ACTS = 24, IMAGES = 2, TRACE = 16;
    private static final int WOVEN_MOST = 6, UNDONE_MOST = 9, EVERY_MOST = 9;
    private static final int DAY_MOST = 999, FORETOLD_MOST = 200, EVENINGS_MOST = 8;
    private static final int NEVER = -1;
    private static final int COUNTER = 1, PAINTER = 2, WAITING = 3, CANDLE = 4, MAID = 5;
    private static final int[] NEAREST = {0, 0, 1, 1, 0, 4};

    private final Row[] rows = new Row[ROWS];
    private final Reader reader = new Reader();
    private Law law = new Law();
    private Law spare = new Law();
    private final Cloth web = new Cloth();
    private final Past past = new Past();
    private final Law[] imageLaws = new Law[IMAGES];
    private final Cloth[] imageWebs = new Cloth[IMAGES];
    private final boolean[] imageKept = new boolean[IMAGES];
    private final Seer seer = new Seer();
    private final Stretches stretches = new Stretches();
    private final Evenings evenings = new Evenings();
    private final Asked asked = new Asked();
    private boolean stands;
    private int latestFault;
    private int latestFinding;

    public NightLoom() {
        for (int i = 0; i < ROWS; i++) {
            rows[i] = new Row();
        }
        for (int i = 0; i < IMAGES; i++) {
            imageLaws[i] = new Law();
            imageWebs[i] = new Cloth();
        }
    }

    // ---- rows

    public int row(int row, int lane, int n) {
        if (!isRow(row) || !isWithin(lane, LANES - 1) || n > ITEMS) {
            return BAD;
        }
        if (n < 0) {
            return found(SIZE);
        }
        rows[row].make(lane, n);
        return fine(n);
    }

    public int set(int row, int i, int v) {
        if (!isRow(row)) {
            return BAD;
        }
        Row told = rows[row];
        if (!told.there) {
            return found(NULL);
        }
        if (!told.hasStretch(i, 1)) {
            return found(PLACE);
        }
        return fine(told.put(i, v));
    }

    public int copy(int a, int i, int b, int j, int n) {
        if (!isRow(a) || !isRow(b)) {
            return BAD;
        }
        Row from = rows[a];
        Row to = rows[b];
        if (!from.there || !to.there) {
            return found(NULL);
        }
        if (from.lane != to.lane) {
            return found(STORE);
        }
        if (!from.hasStretch(i, n) || !to.hasStretch(j, n)) {
            return found(PLACE);
        }
        System.arraycopy(from.items, i, to.items, j, n);
        return fine(n);
    }

    public int drop(int row) {
        if (!isRow(row)) {
            return BAD;
        }
        Row told = rows[row];
        if (!told.there) {
            return found(NULL);
        }
        told.there = false;
        return fine(told.size);
    }

    // ---- looms, acts

    public int feed(int letter) {
        if (!isWithin(letter, 255)) {
            return BAD;
        }
        if (reader.length >= TAPE) {
            return FULL;
        }
        return reader.append(letter);
    }

    public int loom() {
        int faultNumber = reader.readInto(spare);
        if (faultNumber != 0) {
            latestFault = faultNumber;
            return FAULTS - reader.place;
        }
        Law before = law;
        law = spare;
        spare = before;
        stands = true;
        web.begin(law);
        past.forget();
        return law.suitors;
    }

    public int fault() {
        return latestFault;
    }

    public int weave(int n) {
        if (!stands) {
            return STATE;
        }
        if (!isWithin(n, WOVEN_MOST)) {
            return BAD;
        }
        if (web.night || n > law.threads - web.hang || web.yarnFor(n) > web.yarn) {
            return STATE;
        }
        past.keep(web);
        web.hangMore(n);
        web.passEvening(law);
        return web.hang;
    }

    public int unpick(int n) {
        if (!stands) {
            return STATE;
        }
        if (!isWithin(n, UNDONE_MOST)) {
            return BAD;
        }
        if (!web.night || n > law.mostUndone(web.day, web.hang)) {
            return STATE;
        }
        if (web.day >= DAY_MOST) {
            return FULL;
        }
        past.keep(web);
        web.passNight(law, n);
        return web.hang;
    }

    public int undo() {
        if (past.size == 0) {
            return STATE;
        }
        past.takeBack(web);
        return past.size;
    }

    public int cloth(int what) {
        if (!stands) {
            return STATE;
        }
        switch (what) {
            case 0: return web.hang;
            case 1: return web.high;
            case 2: return web.wear;
            case 3: return web.yarn;
            case 4: return web.blamed;
            case 5: return web.night ? 1 : 0;
            case 6: return web.hang == law.threads ? 1 : 0;
            default: return BAD;
        }
    }

    public int colour(int place) {
        if (!stands || !isWithin(place, law.threads - 1)) {
            return BAD;
        }
        return law.colourAt(place);
    }

    public int suitor(int suitor, int what) {
        if (!isSuitor(suitor)) {
            return BAD;
        }
        switch (what) {
            case 0: return law.every[suitor];
            case 1: return law.limits[suitor];
            case 2: return web.doubts[suitor];
            case 3: return web.knows(law, suitor) ? 1 : 0;
            case 4: return web.looked[suitor] == NEVER ? NONE : web.looked[suitor];
            default: return BAD;
        }
    }

    // ---- foretold

    public int holds(int a, int b, int what) {
        if (!stands) {
            return STATE;
        }
        if (!isHabit(a, b) || !isWithin(what, 2)) {
            return BAD;
        }
        seer.foretell(law, web, a, b);
        switch (what) {
            case 0: return seer.days;
            case 1: return seer.ends;
            default: return seer.who;
        }
    }

    public int longest(int what) {
        if (!stands) {
            return STATE;
        }
        if (!isWithin(what, 2)) {
            return BAD;
        }
        seer.findLongest(law, web);
        switch (what) {
            case 0: return seer.bestWoven;
            case 1: return seer.bestUndone;
            default: return seer.bestDays;
        }
    }

    public int soonest(int suitor, int a, int b, int what) {
        if (!isSuitor(suitor) || !isHabit(a, b) || !isWithin(what, 1)) {
            return BAD;
        }
        seer.findSoonest(law, web, suitor, a, b);
        return what == 0 ? seer.soonEvery : seer.soonDays;
    }

    public int twice(int what) {
        if (!stands) {
            return STATE;
        }
        if (!isWithin(what, 2)) {
            return BAD;
        }
        stretches.find(law);
        switch (what) {
            case 0: return stretches.length;
            case 1: return stretches.first;
            default: return stretches.second;
        }
    }

    public int looks(int k) {
        if (!stands) {
            return STATE;
        }
        if (k < 0) {
            return BAD;
        }
        if (k > web.hang) {
            return NONE;
        }
        return law.lengthsThatLookAs(web.hang, k);
    }

    public int seen(int row, int i, int n, int what) {
        if (!stands) {
            return STATE;
        }
        if (!isRow(row) || n < 1 || n > EVENINGS_MOST || !isWithin(what, 2)) {
            return BAD;
        }
        Row told = rows[row];
        if (!told.there) {
            return found(NULL);
        }
        if (!told.hasStretch(i, n)) {
            return found(PLACE);
        }
        if (!told.areWithin(i, n, law.threads)) {
            return BAD;
        }
        evenings.explain(law, web, told, i, n);
        if (what == 0) {
            return fine(evenings.ways);
        }
        if (evenings.ways == 0) {
            return fine(NONE);
        }
        return fine(what == 1 ? evenings.inAll : evenings.inSome);
    }

    public int image(int k) {
        if (!isWithin(k, IMAGES - 1)) {
            return BAD;
        }
        if (!stands) {
            return STATE;
        }
        imageLaws[k].become(law);
        imageWebs[k].become(web);
        imageKept[k] = true;
        return 1;
    }

    public int restore(int k) {
        if (!isWithin(k, IMAGES - 1)) {
            return BAD;
        }
        if (!imageKept[k]) {
            return STATE;
        }
        law.become(imageLaws[k]);
        web.become(imageWebs[k]);
        past.forget();
        return 1;
    }

    // ---- asked

    public int kind(int suitor) {
        return isSuitor(suitor) ? law.kinds[suitor] : BAD;
    }

    public int as(int suitor, int kind) {
        if (!isSuitor(suitor) || !isWithin(kind, MAID)) {
            return BAD;
        }
        if (!isOneOf(law.kinds[suitor], kind)) {
            return found(KIND);
        }
        return fine(suitor);
    }

    public int ask(int suitor, int what) {
        if (!isSuitor(suitor) || !isWithin(what, 1)) {
            return BAD;
        }
        asked.turnTo(suitor, law.kinds[suitor], web.doubts[suitor], law.limits[suitor]);
        return what == 0 ? asked.size() : asked.mark();
    }

    public int trace(int i) {
        return i >= 0 && i < asked.left ? asked.bodies[i] : NONE;
    }

    public int count(int what) {
        switch (what) {
            case 0: return rowsThere();
            case 1: return stands ? law.threads : 0;
            case 2: return stands ? law.colours : 0;
            case 3: return stands ? law.suitors : 0;
            case 4: return stands ? web.day : 0;
            case 5: return stands ? web.whoKnows(law) : 0;
            case 6: return past.size;
            case 7: return reader.length;
            default: return BAD;
        }
    }

    public int status() {
        return latestFinding;
    }

    // ---- what the calls share

    private int found(int finding) {
        latestFinding = finding;
        return FINDINGS - finding;
    }

    private int fine(int answer) {
        latestFinding = 0;
        return answer;
    }

    private int rowsThere() {
        int there = 0;
        for (int i = 0; i < ROWS; i++) {
            if (rows[i].there) {
                there++;
            }
        }
        return there;
    }

    private boolean isSuitor(int suitor) {
        return stands && suitor >= 0 && suitor < law.suitors;
    }

    private static boolean isRow(int row) {
        return row >= 0 && row < ROWS;
    }

    private static boolean isHabit(int a, int b) {
        return isWithin(a, WOVEN_MOST) && isWithin(b, UNDONE_MOST);
    }

    private static boolean isWithin(int number, int most) {
        return number >= 0 && number <= most;
    }

    private static boolean isOneOf(int kind, int wanted) {
        int nearest = kind;
        // A PAINTER is a COUNTER is a SUITOR: no chain of kinds is longer.
        for (int steps = 0; steps < 3; steps++) {
            if (nearest == wanted) {
                return true;
            }
            nearest = NEAREST[nearest];
        }
        return false;
    }

    /** A ROW keeps its array while it is missing, so that no call has to make one. */
    private static final class Row {
        private final int[] items = new int[ITEMS];
        private boolean there;
        private int lane;
        private int size;

        void make(int newLane, int newSize) {
            there = true;
            lane = newLane;
            size = newSize;
            for (int i = 0; i < ITEMS; i++) {
                items[i] = 0;
            }
        }

        boolean hasStretch(int from, int n) {
            // size - n cannot wrap: neither is below 0 where it is reached.
            return from >= 0 && n >= 0 && from <= size - n;
        }

        int put(int i, int v) {
            int cut = v;
            if (lane == 0) {
                cut = (byte) v;
            } else if (lane == 1) {
                cut = (short) v;
            }
            items[i] = cut;
            return cut;
        }

        boolean areWithin(int from, int n, int most) {
            for (int i = from; i < from + n; i++) {
                if (items[i] < 0 || items[i] > most) {
                    return false;
                }
            }
            return true;
        }
    }

    /** What a text tells: it does not change while the LOOM stands. */
    private static final class Law {
        private int threads;
        private int yarn;
        private int tired;
        private int moon;
        private int feast;
        private int grows;
        private int colours;
        private int suitors;
        private final int[] told = new int[COLOURS];
        private final int[] kinds = new int[SUITORS];
        private final int[] every = new int[SUITORS];
        private final int[] limits = new int[SUITORS];

        void become(Law other) {
            threads = other.threads;
            yarn = other.yarn;
            tired = other.tired;
            moon = other.moon;
            feast = other.feast;
            grows = other.grows;
            colours = other.colours;
            suitors = other.suitors;
            System.arraycopy(other.told, 0, told, 0, COLOURS);
            System.arraycopy(other.kinds, 0, kinds, 0, SUITORS);
            System.arraycopy(other.every, 0, every, 0, SUITORS);
            System.arraycopy(other.limits, 0, limits, 0, SUITORS);
        }

        int colourAt(int place) {
            return place >= 0 && colours > 0 ? told[place % colours] : NONE;
        }

        int mostUndone(int day, int hang) {
            return divides(moon, day) ? 0 : Math.min(tired, hang);
        }

        /** Whether the last n threads look the same at two lengths, neither of them below n. */
        boolean lookTheSame(int length, int other, int n) {
            for (int i = 1; i <= n; i++) {
                if (colourAt(length - i) != colourAt(other - i)) {
                    return false;
                }
            }
            return true;
        }

        int lengthsThatLookAs(int length, int n) {
            int lengths = 0;
            for (int other = n; other <= threads; other++) {
                if (lookTheSame(length, other, n)) {
                    lengths++;
                }
            }
            return lengths;
        }

        static boolean divides(int divisor, int day) {
            return divisor != 0 && day % divisor == 0;
        }
    }

    /** What changes by DAY and by NIGHT. */
    private static final class Cloth {
        private int day;
        private boolean night;
        private int hang;
        private int high;
        private int wear;
        private int yarn;
        private int blamed;
        private int feastHang;
        private final int[] doubts = new int[SUITORS];
        private final int[] looked = new int[SUITORS];

        void begin(Law law) {
            day = 1;
            night = false;
            hang = 0;
            high = 0;
            wear = 0;
            yarn = law.yarn;
            blamed = 0;
            feastHang = 0;
            for (int i = 0; i < SUITORS; i++) {
                doubts[i] = 0;
                looked[i] = NEVER;
            }
        }

        void become(Cloth other) {
            day = other.day;
            night = other.night;
            hang = other.hang;
            high = other.high;
            wear = other.wear;
            yarn = other.yarn;
            blamed = other.blamed;
            feastHang = other.feastHang;
            System.arraycopy(other.doubts, 0, doubts, 0, SUITORS);
            System.arraycopy(other.looked, 0, looked, 0, SUITORS);
        }

        /** Threads beyond HIGH take one each; the others one for each fourth that WEAR reaches. */
        int yarnFor(int n) {
            int worn = Math.min(n, high - hang);
            return n - worn + (wear + worn) / 4 - wear / 4;
        }

        void hangMore(int n) {
            yarn -= yarnFor(n);
            wear += Math.min(n, high - hang);
            hang += n;
            high = Math.max(high, hang);
        }

        void passEvening(Law law) {
            for (int i = 0; i < law.suitors; i++) {
                if (law.kinds[i] < CANDLE && Law.divides(law.every[i], day)) {
                    if (looked[i] != NEVER && isDoubtful(law, law.kinds[i], looked[i])) {
                        doubts[i]++;
                    }
                    looked[i] = hang;
                }
            }
            if (Law.divides(law.feast, day)) {
                if (hang - feastHang < law.grows) {
                    blamed++;
                }
                feastHang = hang;
            }
            night = true;
        }

        void passNight(Law law, int n) {
            hang -= n;
            for (int i = 0; i < law.suitors; i++) {
                if (n >= fewestNoticed(law.kinds[i]) && Law.divides(law.every[i], day)) {
                    doubts[i]++;
                }
            }
            day++;
            night = false;
        }

        boolean knows(Law law, int suitor) {
            return doubts[suitor] >= law.limits[suitor];
        }

        int whoKnows(Law law) {
            int bits = 0;
            for (int i = 0; i < law.suitors; i++) {
                if (knows(law, i)) {
                    bits |= 1 << i;
                }
            }
            return bits;
        }

        int firstWhoKnows(Law law) {
            for (int i = 0; i < law.suitors; i++) {
                if (knows(law, i)) {
                    return i;
                }
            }
            return NONE;
        }

        private boolean isDoubtful(Law law, int kind, int then) {
            switch (kind) {
                case COUNTER: return hang <= then;
                case WAITING: return hang < then;
                case PAINTER: return then >= 2 && hang >= 2 && law.lookTheSame(hang, then, 2);
                default: return false;
            }
        }

        private static int fewestNoticed(int kind) {
            switch (kind) {
                case CANDLE: return 1;
                case MAID: return 2;
                default: return UNDONE_MOST + 1;
            }
        }
    }

    /** The ACTS that can be undone: how the cloth was ahead of each, in a ring. */
    private static final class Past {
        private final Cloth[] kept = new Cloth[ACTS];
        private int next;
        private int size;

        Past() {
            for (int i = 0; i < ACTS; i++) {
                kept[i] = new Cloth();
            }
        }

        void forget() {
            next = 0;
            size = 0;
        }

        void keep(Cloth web) {
            kept[next].become(web);
            next = next + 1 < ACTS ? next + 1 : 0;
            size = Math.min(size + 1, ACTS);
        }

        void takeBack(Cloth web) {
            next = next > 0 ? next - 1 : ACTS - 1;
            size--;
            web.become(kept[next]);
        }
    }

    /** Reads the tape, TOKEN by TOKEN; the first FAULT stops it, at that TOKEN's first byte. */
    private static final class Reader {
        private static final String SORTS = "kpwnm";
        private static final int END = 0, LETTER = 1, NUMBER = 2, COMMA = 3, SEMICOLON = 4, OTHER = 5;
        private static final int FIGURES = 2;

        private final int[] tape = new int[TAPE];
        private int length;
        private int next;
        private int place;
        private int token;
        private int value;
        private int faultNumber;

        int append(int letter) {
            tape[length] = letter;
            length++;
            return length;
        }

        int readInto(Law law) {
            faultNumber = 0;
            next = 0;
            step();
            readLaw(law);
            readColours(law);
            readSuitors(law);
            length = 0;
            return faultNumber;
        }

        private void readLaw(Law law) {
            takeLetter('l');
            law.threads = takeNumber(4, 24);
            takeSign(COMMA);
            law.yarn = takeNumber(0, 99);
            takeSign(COMMA);
            law.tired = takeNumber(0, 9);
            takeSign(COMMA);
            law.moon = takeNumber(0, 9);
            takeSign(COMMA);
            law.feast = takeNumber(0, 9);
            takeSign(COMMA);
            law.grows = takeNumber(0, 9);
            takeSign(SEMICOLON);
        }

        private void readColours(Law law) {
            takeLetter('c');
            law.colours = 0;
            boolean more = true;
            for (int i = 0; i <= COLOURS && more; i++) {
                checkNumber(0, 3);
                if (i == COLOURS) {
                    blame(3);
                } else {
                    law.told[i] = takeNumber(0, 3);
                    law.colours = i + 1;
                    more = faultNumber == 0 && token == COMMA;
                    takeSign(more ? COMMA : SEMICOLON);
                }
            }
        }

        private void readSuitors(Law law) {
            law.suitors = 0;
            for (int i = 0; i <= SUITORS && faultNumber == 0 && token != END; i++) {
                int sort = token == LETTER ? SORTS.indexOf((char) value) : -1;
                if (sort < 0) {
                    blame(1);
                } else if (i == SUITORS) {
                    blame(3);
                } else {
                    step();
                    readSuitor(law, i, sort + 1);
                }
            }
        }

        private void readSuitor(Law law, int suitor, int kind) {
            law.kinds[suitor] = kind;
            law.every[suitor] = takeNumber(1, 9);
            takeSign(COMMA);
            law.limits[suitor] = takeNumber(1, 9);
            takeSign(SEMICOLON);
            law.suitors = suitor + 1;
        }

        private void blame(int number) {
            if (faultNumber == 0) {
                faultNumber = number;
            }
        }

        private void takeLetter(int letter) {
            if (token != LETTER || value != letter) {
                blame(1);
            }
            step();
        }

        private void takeSign(int sign) {
            if (token != sign) {
                blame(1);
            }
            step();
        }

        private int takeNumber(int least, int most) {
            checkNumber(least, most);
            int number = value;
            step();
            return number;
        }

        private void checkNumber(int least, int most) {
            if (token != NUMBER) {
                blame(1);
            } else if (value < least || value > most) {
                blame(2);
            }
        }

        /** To the TOKEN behind, but not past one that has a FAULT. */
        private void step() {
            if (faultNumber != 0) {
                return;
            }
            place = next;
            if (place >= length) {
                token = END;
                value = 0;
                return;
            }
            value = tape[place];
            next = place + 1;
            if (isFigure(place)) {
                readFigures();
            } else if (value >= 'a' && value <= 'z') {
                token = LETTER;
            } else if (value == ',') {
                token = COMMA;
            } else {
                token = value == ';' ? SEMICOLON : OTHER;
            }
        }

        /** Figures that stand together are one TOKEN; more of them than a NUMBER has at most are none. */
        private void readFigures() {
            value = 0;
            for (next = place; next < length && isFigure(next); next++) {
                value = value * 10 + tape[next] - '0';
            }
            token = next - place <= FIGURES ? NUMBER : OTHER;
        }

        private boolean isFigure(int at) {
            return at < length && tape[at] >= '0' && tape[at] <= '9';
        }
    }

    /** Tries HABITS on a cloth of its own, so that nothing changes. */
    private static final class Seer {
        private static final int BY_NOTHING = 0, BY_YARN = 1, BY_DONE = 2, BY_BLAME = 3, BY_KNOWING = 4;

        private final Law law = new Law();
        private final Cloth trial = new Cloth();
        private int days;
        private int ends;
        private int who;
        private int bestWoven;
        private int bestUndone;
        private int bestDays;
        private int soonEvery;
        private int soonDays;

        void foretell(Law told, Cloth now, int a, int b) {
            law.become(told);
            foretellHabit(now, a, b);
        }

        void findLongest(Law told, Cloth now) {
            law.become(told);
            bestDays = -1;
            // No b above TIRED differs from TIRED, and no HABIT beats one that does not end.
            for (int a = 0; a <= WOVEN_MOST && bestDays < FORETOLD_MOST; a++) {
                for (int b = 0; b <= law.tired && bestDays < FORETOLD_MOST; b++) {
                    foretellHabit(now, a, b);
                    if (days > bestDays) {
                        bestDays = days;
                        bestWoven = a;
                        bestUndone = b;
                    }
                }
            }
        }

        void findSoonest(Law told, Cloth now, int suitor, int a, int b) {
            law.become(told);
            soonEvery = NONE;
            soonDays = NONE;
            for (int every = 1; every <= EVERY_MOST; every++) {
                law.every[suitor] = every;
                trial.become(now);
                int known = daysTillKnown(suitor, a, b);
                if (known != NONE && (soonDays == NONE || known < soonDays)) {
                    soonEvery = every;
                    soonDays = known;
                }
            }
        }

        private void foretellHabit(Cloth now, int a, int b) {
            trial.become(now);
            days = 0;
            ends = trial.night ? endOfNight(b) : BY_NOTHING;
            for (int day = 0; day < FORETOLD_MOST && ends == BY_NOTHING; day++) {
                ends = endOfDay(a, b);
                if (ends == BY_NOTHING) {
                    days++;
                }
            }
            who = ends == BY_KNOWING ? trial.firstWhoKnows(law) : NONE;
        }

        private int endOfDay(int a, int b) {
            if (!weaves(a)) {
                return BY_YARN;
            }
            if (trial.hang == law.threads) {
                return BY_DONE;
            }
            int blamedBefore = trial.blamed;
            trial.passEvening(law);
            if (trial.blamed > blamedBefore) {
                return BY_BLAME;
            }
            return endOfNight(b);
        }

        private int endOfNight(int b) {
            undoes(b);
            return trial.firstWhoKnows(law) == NONE ? BY_NOTHING : BY_KNOWING;
        }

        private int daysTillKnown(int suitor, int a, int b) {
            if (trial.knows(law, suitor)) {
                return 0;
            }
            // A NIGHT that is now counts with the DAY behind it.
            if (trial.night) {
                undoes(b);
                if (trial.knows(law, suitor)) {
                    return 1;
                }
            }
            for (int day = 1; day <= FORETOLD_MOST && weaves(a); day++) {
                trial.passEvening(law);
                if (trial.knows(law, suitor)) {
                    return day;
                }
                if (trial.hang == law.threads) {
                    return NONE;
                }
                undoes(b);
                if (trial.knows(law, suitor)) {
                    return day;
                }
            }
            return NONE;
        }

        private boolean weaves(int a) {
            int n = Math.min(a, law.threads - trial.hang);
            if (trial.yarnFor(n) > trial.yarn) {
                return false;
            }
            trial.hangMore(n);
            return true;
        }

        private void undoes(int b) {
            trial.passNight(law, Math.min(b, law.mostUndone(trial.day, trial.hang)));
        }
    }

    /** The longest two stretches of places that look the same. */
    private static final class Stretches {
        private int length;
        private int first;
        private int second;

        void find(Law law) {
            length = 0;
            first = NONE;
            second = NONE;
            for (int i = 0; i < law.threads; i++) {
                for (int j = i + 1; j < law.threads; j++) {
                    int same = sameFrom(law, i, j);
                    if (same > length) {
                        length = same;
                        first = i;
                        second = j;
                    }
                }
            }
        }

        private static int sameFrom(Law law, int i, int j) {
            int same = 0;
            while (j + same < law.threads && law.colourAt(i + same) == law.colourAt(j + same)) {
                same++;
            }
            return same;
        }
    }

    /** All ways in which EVENINGS that a row tells can have come about. */
    private static final class Evenings {
        private int ways;
        private int inAll;
        private int inSome;

        void explain(Law law, Cloth now, Row told, int from, int n) {
            int woven = told.items[from] - now.hang;
            ways = isWithin(woven, now.night ? 0 : WOVEN_MOST) ? 1 : 0;
            inAll = 0;
            inSome = 0;
            for (int night = 0; night < n - 1; night++) {
                int hung = told.items[from + night];
                int most = law.mostUndone(now.day + night, hung);
                addNight(night, most, told.items[from + night + 1] - hung);
            }
        }

        /** Each NIGHT is free of the others, as what hung in the EVENINGS is told. */
        private void addNight(int night, int most, int grown) {
            boolean still = isWithin(grown, WOVEN_MOST);
            int waysByUndoing = 0;
            for (int undone = 1; undone <= most; undone++) {
                if (isWithin(grown + undone, WOVEN_MOST)) {
                    waysByUndoing++;
                }
            }
            ways *= waysByUndoing + (still ? 1 : 0);
            if (!still) {
                inAll |= 1 << night;
            }
            if (waysByUndoing > 0) {
                inSome |= 1 << night;
            }
        }
    }

    /** The SUITOR who is asked, the BODIES by their numbers, and THE TRACE. */
    private static final class Asked {
        private final int[] bodies = new int[TRACE];
        private int left;
        private int number;
        private int sort;
        private int doubts;
        private int limit;

        void turnTo(int suitor, int suitorKind, int suitorDoubts, int suitorLimit) {
            left = 0;
            number = suitor;
            sort = suitorKind;
            doubts = suitorDoubts;
            limit = suitorLimit;
        }

        int size() {
            switch (sort) {
                case COUNTER: case WAITING: return size11();
                case PAINTER: return size12();
                case CANDLE: return size13();
                case MAID: return size14();
                default: return size10();
            }
        }

        int mark() {
            switch (sort) {
                case COUNTER: return mark21();
                case PAINTER: return mark24();
                case WAITING: return mark22();
                case CANDLE: case MAID: return mark23();
                default: return mark20();
            }
        }

        // 11 and 23 ask anew among the KINDS that can come to them, so that size and mark never call in a ring.

        private int size10() {
            leave(10);
            return doubts;
        }

        private int size11() {
            leave(11);
            int lent = size10();
            switch (sort) {
                case PAINTER: return lent + mark24();
                case WAITING: return lent + mark22();
                default: return lent + mark21();
            }
        }

        private int size12() {
            leave(12);
            return -size11();
        }

        private int size13() {
            leave(13);
            return size10() - 100;
        }

        private int size14() {
            leave(14);
            return 2 * size13();
        }

        private int mark20() {
            leave(20);
            return number;
        }

        private int mark21() {
            leave(21);
            return mark20() + limit;
        }

        private int mark22() {
            leave(22);
            return mark21() - 1000;
        }

        private int mark23() {
            leave(23);
            int lent = mark20();
            return lent - (sort == MAID ? size14() : size13());
        }

        private int mark24() {
            leave(24);
            return 2 * mark21();
        }

        private void leave(int body) {
            if (left < TRACE) {
                bodies[left] = body;
                left++;
            }
        }
    }
}
