/**
 * A post office that spills its letters as mercury in a yard of cells.
 *
 * <p>Every row that a call needs is made in the constructors and used again, so that no call makes
 * an object. What the document asks of a call is told there; comments here say why a thing is
 * done as it is.
 */
public final class MercuryPost {
    public static final int NONE = -1;

    private static final int SIDE = 5;
    private static final int CELLS = 25;
    private static final int ALL_CELLS = 33554431;
    private static final int LETTERS = 8;
    private static final int WAYS = 4;
    private static final int TOP_HIGH = 9;
    private static final int TOP_STAND = 99;
    private static final int LAST_HOUR = 999;
    private static final int TOP_COLD = 10;
    private static final int TOP_MOOD = 9;
    private static final int MOST_SEEN = 6;
    private static final int SEEN_HOURS = 30;
    private static final int LATER_HOURS = 60;
    private static final int MOST_DELAY = 30;
    private static final int MOST_APART = 8;
    private static final int MOST_LAWS = 6;
    private static final int MOST_UNDONE = 16;
    private static final int IMAGES = 2;

    private static final int MOST_BYTES = 400;
    private static final int MOST_CLAUSES = 12;
    private static final int MOST_PARTS = 50;
    private static final int MOST_BRACKETS = 8;
    private static final int MOST_NUMBER = 1000;
    private static final int MOST_TIMES = 20;

    private static final int MOST_FEW_BELOW = 20;
    private static final int MOST_FEW_DROPS = 99;
    private static final long ALL_PARTS = 1000000000000L;
    private static final int MOST_DAYS = 60;
    private static final int TOP_SEED = 1000000;

    private static final int BAD_NUMBER = -1;
    private static final int NO_SUCH = -2;
    private static final int CANNOT_BE = -3;
    private static final int NO_ROOM = -5;
    private static final int BAD_TEXT = -6;
    private static final int REFUSALS = 7;

    private static final int IS_IN = 0;
    private static final int IS_ON = 1;
    private static final int IS_READ = 2;

    /** The four things that can be undone, by the numbers that undo() answers. */
    private static final int SPILL = 0;
    private static final int RAISE = 1;
    private static final int SPLIT = 2;
    private static final int PASS = 3;
    /** The two kinds of a law's clauses. */
    private static final int STANDS = 4;
    private static final int HOLDS = 5;

    /** Tokens: 0 .. 1,000 are numbers, one number stands for all above; then signs, by bytes; then words. */
    private static final int TOO_MUCH = MOST_NUMBER + 1;
    private static final int SIGN = 2000;
    private static final int ANOTHER_WORD = 3000;
    private static final int WORD_STANDS = 3001;
    private static final int WORD_HOLDS = 3002;
    private static final int WORD_IF = 3003;
    private static final int WORD_OR = 3004;
    private static final int WORD_AND = 3005;
    private static final int WORD_NOT = 3006;
    private static final int WORD_SPILL = 3007;
    private static final int WORD_AT = 3008;
    private static final int WORD_RAISE = 3009;
    private static final int WORD_TO = 3010;
    private static final int WORD_SPLIT = 3011;
    private static final int WORD_BY = 3012;
    private static final int WORD_PASS = 3013;
    private static final int WORD_TIMES = 3014;
    private static final int WORD_X = 3015;
    private static final int WORD_Y = 3016;
    private static final int WORD_HIGH = 3017;
    private static final int WORD_MANY = 3018;
    private static final int WORD_HOUR = 3019;
    private static final int WORD_COLD = 3020;
    private static final int WORD_MOOD = 3021;
    private static final int WORD_DONE = 3022;
    private static final int WORD_LATEST = 3023;
    private static final int WORD_LEFT = 3024;
    private static final int WORD_READ = 3025;
    private static final int NO_MORE = 4000;
    private static final int BLANK = 32;

    /** Steps of the code that sums and tests become: the kind in the low bits, a number above. */
    private static final int STEP_BITS = 4;
    private static final int STEP_MASK = 15;
    private static final int PUSH = 0;
    private static final int FACT = 1;
    private static final int PLUS = 2;
    private static final int MINUS = 3;
    private static final int TIMES = 4;
    private static final int OVER = 5;
    private static final int REST = 6;
    private static final int LESS = 7;
    private static final int MORE = 8;
    private static final int SAME = 9;
    private static final int NOT = 10;
    private static final int OR = 11;
    private static final int AND = 12;
    private static final int STOP = 13;

    private static final long TOP_SUM = 1000000000L;
    /** No sum that is whole can be so low. */
    private static final int BROKEN = -2000000000;

    /** What a law asks of a cell, by its place in a row of facts. */
    private static final int LAW_X = 0;
    private static final int LAW_Y = 1;
    private static final int LAW_HIGH = 2;
    private static final int LAW_MANY = 3;
    private static final int LAW_HOUR = 4;
    private static final int LAW_COLD = 5;
    private static final int LAW_MOOD = 6;
    private static final int LAW_FACTS = 7;

    /** What orders ask, by its place in a row of facts. */
    private static final int ORDER_HOUR = 0;
    private static final int ORDER_DONE = 1;
    private static final int ORDER_LATEST = 2;
    private static final int ORDER_LEFT = 3;
    private static final int ORDER_READ = 4;
    private static final int ORDER_AT = 5;
    private static final int ORDER_HIGH = 13;
    private static final int ORDER_FACTS = 38;

    private final Kept kept = new Kept();
    private final Moment now = kept.moment;
    private final Kept[] images = new Kept[IMAGES];
    private final boolean[] imageKept = new boolean[IMAGES];
    private final Past past = new Past();
    private final Past pastAhead = new Past();
    private final Moment ahead = new Moment();
    private final Moment paper = new Moment();
    private final Moment drawnDays = new Moment();
    private boolean daysKept;
    private final Tape tape = new Tape();
    private final Reader reader = new Reader(tape);
    private final Text order = new Text();
    private final Calculator calculator = new Calculator();
    private final int[] orderFacts = new int[ORDER_FACTS];
    private final Slope slope = new Slope(calculator, kept);
    private final Streams streams = new Streams();
    private final Watch watch = new Watch();
    private final long[] parts = new long[MOST_FEW_BELOW];
    private final Notes notes = new Notes();

    public MercuryPost() {
        for (int k = 0; k < IMAGES; k++) {
            images[k] = new Kept();
        }
    }

    // ------------------------------------------------------------------ the yard and its letters

    public int cell(int cell, int what) {
        if (!isCell(cell)) {
            return NONE;
        }
        slope.face(now, kept.force);
        switch (what) {
            case 0:
                return now.high[cell];
            case 1:
                return kept.hasDoor(cell) ? 1 : 0;
            case 2:
                return now.lettersOn(cell);
            case 3:
                return slope.standOf(cell);
            case 4:
                return slope.holdsAt(cell) ? 1 : 0;
            case 5:
                return slope.next(cell);
            default:
                return NONE;
        }
    }

    public int door(int cell, int is) {
        if (!isCell(cell) || is < 0 || is > 1) {
            return notes.refuse(BAD_NUMBER);
        }
        int was = kept.hasDoor(cell) ? 1 : 0;
        kept.setDoor(cell, is == 1);
        return notes.grant(was);
    }

    public int letter(int letter, int what) {
        return now.told(letter, what);
    }

    public int terms(int what, int value) {
        int top = what == 0 ? LAST_HOUR : what == 1 ? TOP_COLD : TOP_MOOD;
        if (what < 0 || what > 2 || value < 0 || value > top) {
            return notes.refuse(BAD_NUMBER);
        }
        int was = termNow(what);
        if (what == 0) {
            now.hour = value;
        } else if (what == 1) {
            kept.cold = value;
        } else {
            kept.mood = value;
        }
        past.clear();
        return notes.grant(was);
    }

    private int termNow(int what) {
        return what == 0 ? now.hour : what == 1 ? kept.cold : kept.mood;
    }

    // ------------------------------------------------------------------ the tape

    public int feed(int a, int b, int c, int d, int e) {
        if (!tape.hasRoom()) {
            return NONE;
        }
        tape.add(a);
        tape.add(b);
        tape.add(c);
        tape.add(d);
        tape.add(e);
        return tape.size;
    }

    public int end(int n) {
        if (n < 0 || n > tape.size) {
            return NONE;
        }
        tape.size = n;
        return n;
    }

    public int row() {
        if (tape.size == 0) {
            return notes.refuse(BAD_TEXT);
        }
        int told = 0;
        int beads = 0;
        for (int at = 0; at < tape.size; at += 3) {
            if (tellCell(at)) {
                told++;
            } else {
                beads++;
            }
        }
        tape.size = 0;
        notes.beads = beads;
        past.clear();
        return notes.grant(told);
    }

    private boolean tellCell(int at) {
        if (at + 2 >= tape.size) {
            return false;
        }
        int cell = tape.bytes[at];
        int high = tape.bytes[at + 1];
        int is = tape.bytes[at + 2];
        if (!isCell(cell) || high > TOP_HIGH || is > 1) {
            return false;
        }
        now.high[cell] = high;
        kept.setDoor(cell, is == 1);
        return true;
    }

    public int beads() {
        return notes.beads;
    }

    public int law() {
        if (kept.laws >= MOST_LAWS) {
            tape.size = 0;
            return notes.refuse(NO_ROOM);
        }
        notes.fault = reader.read(kept.law[kept.laws], false);
        tape.size = 0;
        if (notes.fault != NONE) {
            return notes.refuse(BAD_TEXT);
        }
        kept.laws++;
        return notes.grant(kept.laws - 1);
    }

    public int orders() {
        notes.fault = reader.read(order, true);
        notes.stopped = NONE;
        tape.size = 0;
        if (notes.fault != NONE) {
            return notes.refuse(BAD_TEXT);
        }
        ahead.copy(now);
        pastAhead.copy(past);
        int done = carryOut();
        if (done == NONE) {
            now.copy(ahead);
            past.copy(pastAhead);
            return notes.refuse(CANNOT_BE);
        }
        return notes.grant(done);
    }

    /** How many were run; NONE: one could not be, and what was done ahead of it still stands. */
    private int carryOut() {
        int done = 0;
        int latest = NONE;
        for (int clause = 0; clause < order.clauses; clause++) {
            for (int time = 0; time < order.times[clause]; time++) {
                fillOrderFacts(done, latest);
                if (calculator.work(order, order.test[clause], orderFacts) != 1) {
                    continue;
                }
                int first = calculator.work(order, order.first[clause], orderFacts);
                int second = calculator.work(order, order.second[clause], orderFacts);
                boolean broken = first == BROKEN || second == BROKEN;
                int got = broken ? CANNOT_BE : attempt(order.kind[clause], first, second);
                if (got < 0) {
                    notes.stopped = clause;
                    return NONE;
                }
                done++;
                if (order.kind[clause] == PASS) {
                    latest = got;
                }
            }
        }
        return done;
    }

    private void fillOrderFacts(int done, int latest) {
        orderFacts[ORDER_HOUR] = now.hour;
        orderFacts[ORDER_DONE] = done;
        orderFacts[ORDER_LATEST] = latest;
        orderFacts[ORDER_LEFT] = now.howManyAre(IS_IN);
        orderFacts[ORDER_READ] = now.howManyAre(IS_READ);
        System.arraycopy(now.spot, 0, orderFacts, ORDER_AT, LETTERS);
        System.arraycopy(now.high, 0, orderFacts, ORDER_HIGH, CELLS);
    }

    public int fault() {
        return notes.fault;
    }

    public int stopped() {
        return notes.stopped;
    }

    public int force(int law) {
        if (!isLawOrNone(law)) {
            return notes.refuse(NO_SUCH);
        }
        int was = kept.force;
        kept.force = law;
        return notes.grant(was);
    }

    private boolean isLawOrNone(int law) {
        return law >= NONE && law < kept.laws;
    }

    // ------------------------------------------------------------------ what can be undone

    public int spill(int letter, int cell) {
        return notes.settle(attempt(SPILL, letter, cell));
    }

    public int raise(int cell, int high) {
        return notes.settle(attempt(RAISE, cell, high));
    }

    public int split(int letter, int way) {
        return notes.settle(attempt(SPLIT, letter, way));
    }

    public int pass() {
        return notes.settle(attempt(PASS, 0, 0));
    }

    /** What spill() and the like answer; orders ask it, too, whose parts are no calls that are counted. */
    private int attempt(int kind, int a, int b) {
        int refusal = now.refusalOf(kind, a, b);
        if (refusal != 0) {
            return refusal;
        }
        past.keep(now, kind);
        return kind == PASS ? slope.passHour(now) : now.change(kind, a, b);
    }

    public int undo() {
        if (past.size == 0) {
            return notes.refuse(CANNOT_BE);
        }
        return notes.grant(past.restore(now));
    }

    // ------------------------------------------------------------------ where letters will be

    public int later(int letter, int n) {
        if (!isLetter(letter) || n < 0 || n > LATER_HOURS) {
            return NONE;
        }
        passOnPaper(n);
        return paper.spot[letter];
    }

    public int readWith(int letter) {
        if (!isLetter(letter)) {
            return NONE;
        }
        passOnPaper(LATER_HOURS);
        return paper.readWithIt(letter);
    }

    private void passOnPaper(int hours) {
        paper.copy(now);
        for (int n = 0; n < hours; n++) {
            slope.passHour(paper);
        }
    }

    // ------------------------------------------------------------------ runs of drops alone

    private void traceRuns() {
        slope.face(now, kept.force);
        streams.trace(slope, kept.doors);
    }

    public int run(int cell, int i) {
        if (!isCell(cell) || i < NONE) {
            return NONE;
        }
        traceRuns();
        return i == NONE ? streams.hours[cell] : streams.placeAfter(cell, i);
    }

    public int basin(int cell) {
        if (!isCell(cell)) {
            return NONE;
        }
        traceRuns();
        return streams.endingAt(cell);
    }

    public int meeting(int one, int other) {
        if (!isCell(one) || !isCell(other)) {
            return NONE;
        }
        traceRuns();
        return streams.firstOnBoth(one, other);
    }

    public int delay(int one, int other) {
        if (!isCell(one) || !isCell(other)) {
            return NONE;
        }
        traceRuns();
        for (int d = 0; d <= MOST_DELAY; d++) {
            if (!streams.everOnOne(one, other, d)) {
                return d;
            }
        }
        return NONE;
    }

    public int apart(int cells, int k) {
        if (cells < 0 || cells > ALL_CELLS || k < NONE) {
            return NONE;
        }
        int many = Integer.bitCount(cells);
        if (many > MOST_APART || k >= many) {
            return NONE;
        }
        traceRuns();
        int kinds = streams.sortApart(cells);
        return k == NONE ? kinds : streams.kindOf[k];
    }

    public int kerbs(int from, int door, int what) {
        if (!isCell(from) || !isCell(door) || what < 0 || what > 1 || !kept.hasDoor(door)) {
            return NONE;
        }
        slope.face(now, kept.force);
        int bits = fewestKerbs(from, door);
        return what == 1 || bits == NONE ? bits : Integer.bitCount(bits);
    }

    /** Pairs are tried by their higher cell first, so that the first that does is the lowest as bits. */
    private int fewestKerbs(int from, int door) {
        if (slope.endWithKerbs(from, 0) == door) {
            return 0;
        }
        int free = freeForKerbs(from, door);
        for (int one = 0; one < CELLS; one++) {
            if (isAmong(one, free) && slope.endWithKerbs(from, 1 << one) == door) {
                return 1 << one;
            }
        }
        for (int high = 1; high < CELLS; high++) {
            for (int low = 0; low < high && isAmong(high, free); low++) {
                int bits = 1 << high | 1 << low;
                if (isAmong(low, free) && slope.endWithKerbs(from, bits) == door) {
                    return bits;
                }
            }
        }
        return NONE;
    }

    private int freeForKerbs(int from, int door) {
        int free = 0;
        for (int cell = 0; cell < CELLS; cell++) {
            if (cell != from && cell != door && now.high[cell] != TOP_HIGH) {
                free |= 1 << cell;
            }
        }
        return free;
    }

    public int springs() {
        traceRuns();
        return streams.unreached();
    }

    public int pools() {
        traceRuns();
        return streams.stillWithoutDoor();
    }

    public int longest(int what) {
        if (what < 0 || what > 1) {
            return NONE;
        }
        traceRuns();
        int from = streams.farthest();
        return what == 0 ? streams.hours[from] : from;
    }

    // ------------------------------------------------------------------ which letter it is

    public int seen(int n, int cell) {
        if (n < 0 || n > SEEN_HOURS || !isCell(cell)) {
            return notes.refuse(BAD_NUMBER);
        }
        if (kept.seen >= MOST_SEEN) {
            return notes.refuse(NO_ROOM);
        }
        kept.seenIn[kept.seen] = n;
        kept.seenAt[kept.seen] = cell;
        kept.seen++;
        return notes.grant(kept.seen);
    }

    public int forget() {
        int was = kept.seen;
        kept.seen = 0;
        return was;
    }

    public int canBe() {
        watchLetters();
        return watch.lettersSeen(kept, now);
    }

    public int look(int what) {
        if (what < 0 || what > 1) {
            return NONE;
        }
        watchLetters();
        int letters = watch.lettersSeen(kept, now);
        if (letters == 0) {
            return NONE;
        }
        int hour = watch.bestHour(letters);
        return what == 0 ? hour : watch.mostAtOne(hour, letters);
    }

    private void watchLetters() {
        paper.copy(now);
        for (int n = 0; n <= SEEN_HOURS; n++) {
            watch.note(n, paper);
            slope.passHour(paper);
        }
    }

    public long few(int k, int n) {
        if (k < 1 || k > MOST_FEW_BELOW || n < 0 || n > MOST_FEW_DROPS) {
            return NONE;
        }
        for (int did = 0; did < k; did++) {
            parts[did] = did == 0 ? ALL_PARTS : 0;
        }
        for (int drop = 0; drop < n; drop++) {
            partBelow(k);
        }
        long all = 0;
        for (int did = 0; did < k; did++) {
            all += parts[did];
        }
        return all;
    }

    /** Parts of k and more never come below it again, so they are not kept. */
    private void partBelow(int k) {
        for (int did = k - 1; did >= 0; did--) {
            long more = did == 0 ? 0 : parts[did - 1] * kept.cold / TOP_COLD;
            parts[did] = parts[did] * (TOP_COLD - kept.cold) / TOP_COLD + more;
        }
    }

    public int compare(int law, int cell) {
        if (!isLawOrNone(law) || !isCell(cell)) {
            return NONE;
        }
        slope.face(now, law);
        return slope.next(cell);
    }

    // ------------------------------------------------------------------ days by draws

    public int days(int seed, int n) {
        if (seed < 0 || seed > TOP_SEED || n < 1 || n > MOST_DAYS) {
            return notes.refuse(BAD_NUMBER);
        }
        drawnDays.copy(now);
        daysKept = true;
        int s = seed;
        for (int day = 0; day < n && drawnDays.hour < LAST_HOUR; day++) {
            s = draw(s);
            int letter = s % LETTERS;
            s = draw(s);
            int second = s % CELLS;
            s = draw(s);
            changeDrawn(s % 4, letter, second);
            slope.passHour(drawnDays);
        }
        return notes.grant(drawnDays.howManyAre(IS_READ));
    }

    private static int draw(int s) {
        return (s * 1103 + 12345) % 1000003;
    }

    private void changeDrawn(int third, int letter, int second) {
        if (third > 2) {
            return;
        }
        int kind = third == 2 ? SPLIT : SPILL;
        int whither = third == 2 ? second % WAYS : second;
        if (drawnDays.refusalOf(kind, letter, whither) == 0) {
            drawnDays.change(kind, letter, whither);
        }
    }

    public int drawn(int letter, int what) {
        return daysKept ? drawnDays.told(letter, what) : NONE;
    }

    // ------------------------------------------------------------------ images, counts

    public int image(int k) {
        if (!isImage(k)) {
            return notes.refuse(BAD_NUMBER);
        }
        images[k].copy(kept);
        imageKept[k] = true;
        return notes.grant(0);
    }

    public int back(int k) {
        if (!isImage(k)) {
            return notes.refuse(BAD_NUMBER);
        }
        if (!imageKept[k]) {
            return notes.refuse(NO_SUCH);
        }
        kept.copy(images[k]);
        past.clear();
        return notes.grant(0);
    }

    public int count(int what) {
        switch (what) {
            case 0:
                return kept.doors;
            case 1:
                return now.howManyAre(IS_IN);
            case 2:
                return now.howManyAre(IS_READ);
            case 3:
                return kept.seen;
            case 4:
                return kept.laws;
            case 5:
                return past.size;
            case 6:
                return tape.size;
            case 7:
            case 8:
            case 9:
                return notes.refused[what - 6];
            case 10:
            case 11:
                return notes.refused[what - 5];
            case 12:
                return kept.force;
            case 13:
            case 14:
            case 15:
                return termNow(what - 13);
            default:
                return NONE;
        }
    }

    public int status() {
        return notes.status;
    }

    // ------------------------------------------------------------------ what numbers can be

    private static boolean isCell(int cell) {
        return cell >= 0 && cell < CELLS;
    }

    private static boolean isLetter(int letter) {
        return letter >= 0 && letter < LETTERS;
    }

    private static boolean isImage(int k) {
        return k >= 0 && k < IMAGES;
    }

    private static boolean isAmong(int cell, int bits) {
        return (bits >> cell & 1) == 1;
    }

    /** The cell beside a cell; NONE beyond the yard. */
    private static int beside(int cell, int way) {
        int x = cell % SIDE;
        int y = cell / SIDE;
        switch (way) {
            case 0:
                return y < SIDE - 1 ? cell + SIDE : NONE;
            case 1:
                return x < SIDE - 1 ? cell + 1 : NONE;
            case 2:
                return y > 0 ? cell - SIDE : NONE;
            case 3:
                return x > 0 ? cell - 1 : NONE;
            default:
                return NONE;
        }
    }

    /** What calls leave behind that neither images nor undo() touch. */
    private static final class Notes {
        private final int[] refused = new int[REFUSALS];
        private int status;
        private int fault = NONE;
        private int stopped = NONE;
        private int beads;

        int refuse(int code) {
            status = code;
            if (code < 0 && -code < REFUSALS) {
                refused[-code]++;
            }
            return code;
        }

        int grant(int answer) {
            status = 0;
            return answer;
        }

        /** For answers that are below 0 only if they tell why the call was refused. */
        int settle(int answer) {
            return answer < 0 ? refuse(answer) : grant(answer);
        }
    }

    /** All that a spill, a raise, a split, an hour can change: so that it can be undone, and be tried on paper. */
    private static final class Moment {
        private final int[] state = new int[LETTERS];
        private final int[] spot = new int[LETTERS];
        private final int[] readIn = new int[LETTERS];
        private final int[] high = new int[CELLS];
        private int hour;

        Moment() {
            for (int letter = 0; letter < LETTERS; letter++) {
                spot[letter] = NONE;
                readIn[letter] = NONE;
            }
        }

        void copy(Moment other) {
            System.arraycopy(other.state, 0, state, 0, LETTERS);
            System.arraycopy(other.spot, 0, spot, 0, LETTERS);
            System.arraycopy(other.readIn, 0, readIn, 0, LETTERS);
            System.arraycopy(other.high, 0, high, 0, CELLS);
            hour = other.hour;
        }

        int told(int letter, int what) {
            if (!isLetter(letter)) {
                return NONE;
            }
            switch (what) {
                case 0:
                    return state[letter];
                case 1:
                    return spot[letter];
                case 2:
                    return readIn[letter];
                default:
                    return NONE;
            }
        }

        int lettersOn(int cell) {
            int bits = 0;
            for (int letter = 0; letter < LETTERS; letter++) {
                if (state[letter] == IS_ON && spot[letter] == cell) {
                    bits |= 1 << letter;
                }
            }
            return bits;
        }

        int howManyAre(int wanted) {
            int many = 0;
            for (int letter = 0; letter < LETTERS; letter++) {
                if (state[letter] == wanted) {
                    many++;
                }
            }
            return many;
        }

        /** NONE: the letter itself is not read. */
        int readWithIt(int letter) {
            if (state[letter] != IS_READ) {
                return NONE;
            }
            int bits = 0;
            for (int other = 0; other < LETTERS; other++) {
                boolean same = spot[other] == spot[letter] && readIn[other] == readIn[letter];
                if (state[other] == IS_READ && same) {
                    bits |= 1 << other;
                }
            }
            return bits;
        }

        /** 0: it can be. */
        int refusalOf(int kind, int a, int b) {
            switch (kind) {
                case SPILL:
                    if (!isLetter(a) || !isCell(b)) {
                        return BAD_NUMBER;
                    }
                    return state[a] == IS_IN ? 0 : CANNOT_BE;
                case RAISE:
                    if (!isCell(a) || b < 0 || b > TOP_HIGH) {
                        return BAD_NUMBER;
                    }
                    return high[a] != b ? 0 : CANNOT_BE;
                case SPLIT:
                    if (!isLetter(a) || b < 0 || b >= WAYS) {
                        return BAD_NUMBER;
                    }
                    return state[a] == IS_ON && beside(spot[a], b) != NONE ? 0 : CANNOT_BE;
                default:
                    return hour < LAST_HOUR ? 0 : CANNOT_BE;
            }
        }

        /** What refusalOf() lets be, but for an hour, which asks the law. */
        int change(int kind, int a, int b) {
            switch (kind) {
                case SPILL:
                    state[a] = IS_ON;
                    spot[a] = b;
                    return Integer.bitCount(lettersOn(b));
                case RAISE:
                    int was = high[a];
                    high[a] = b;
                    return was;
                case SPLIT:
                    spot[a] = beside(spot[a], b);
                    return spot[a];
                default:
                    return CANNOT_BE;
            }
        }
    }

    /** All that an image keeps. */
    private static final class Kept {
        private final Moment moment = new Moment();
        private int doors;
        private int cold = 1;
        private int mood;
        private final int[] seenIn = new int[MOST_SEEN];
        private final int[] seenAt = new int[MOST_SEEN];
        private int seen;
        private final Text[] law = new Text[MOST_LAWS];
        private int laws;
        private int force = NONE;

        Kept() {
            for (int k = 0; k < MOST_LAWS; k++) {
                law[k] = new Text();
            }
        }

        void copy(Kept other) {
            moment.copy(other.moment);
            doors = other.doors;
            cold = other.cold;
            mood = other.mood;
            System.arraycopy(other.seenIn, 0, seenIn, 0, MOST_SEEN);
            System.arraycopy(other.seenAt, 0, seenAt, 0, MOST_SEEN);
            seen = other.seen;
            for (int k = 0; k < other.laws; k++) {
                law[k].copy(other.law[k]);
            }
            laws = other.laws;
            force = other.force;
        }

        boolean hasDoor(int cell) {
            return isAmong(cell, doors);
        }

        void setDoor(int cell, boolean is) {
            doors = is ? doors | 1 << cell : doors & ~(1 << cell);
        }
    }

    /** The latest moments ahead of what can be undone, in a ring. */
    private static final class Past {
        private final Moment[] moments = new Moment[MOST_UNDONE];
        private final int[] kinds = new int[MOST_UNDONE];
        private int size;
        /** Where the next one comes, below MOST_UNDONE. */
        private int place;

        Past() {
            for (int k = 0; k < MOST_UNDONE; k++) {
                moments[k] = new Moment();
            }
        }

        void copy(Past other) {
            for (int k = 0; k < MOST_UNDONE; k++) {
                moments[k].copy(other.moments[k]);
                kinds[k] = other.kinds[k];
            }
            size = other.size;
            place = other.place;
        }

        void clear() {
            size = 0;
        }

        void keep(Moment moment, int kind) {
            moments[place].copy(moment);
            kinds[place] = kind;
            place = place == MOST_UNDONE - 1 ? 0 : place + 1;
            size = Math.min(size + 1, MOST_UNDONE);
        }

        /** The kind of what is undone so. */
        int restore(Moment into) {
            place = place == 0 ? MOST_UNDONE - 1 : place - 1;
            size--;
            into.copy(moments[place]);
            return kinds[place];
        }
    }

    /** The tape, and the tokens that it was cut into. */
    private static final class Tape {
        private final int[] bytes = new int[MOST_BYTES];
        private int size;
        private final int[] token = new int[MOST_BYTES + 1];
        private final int[] start = new int[MOST_BYTES + 1];
        private int tokens;

        boolean hasRoom() {
            return size + 20 <= MOST_BYTES;
        }

        void add(int four) {
            for (int shift = 24; shift >= 0 && size < MOST_BYTES; shift -= 8) {
                bytes[size] = four >> shift & 255;
                size++;
            }
        }

        /** The last token is always NO_MORE, behind the last byte. */
        void cut() {
            tokens = 0;
            for (int at = 0; at < size; at++) {
                if (bytes[at] != BLANK && !goesOn(at)) {
                    start[tokens] = at;
                    token[tokens] = tokenOf(at, behindRow(at));
                    tokens++;
                }
            }
            start[tokens] = size;
            token[tokens] = NO_MORE;
            tokens++;
        }

        /** Whether a byte is of one row with that ahead of it. */
        private boolean goesOn(int at) {
            if (at == 0) {
                return false;
            }
            int sign = bytes[at];
            int ahead = bytes[at - 1];
            return isSmall(sign) && isSmall(ahead) || isDigit(sign) && isDigit(ahead);
        }

        private int behindRow(int from) {
            int to = from + 1;
            while (to < size && goesOn(to)) {
                to++;
            }
            return to;
        }

        private static boolean isSmall(int sign) {
            return sign >= 'a' && sign <= 'z';
        }

        private static boolean isDigit(int sign) {
            return sign >= '0' && sign <= '9';
        }

        private int tokenOf(int from, int to) {
            if (isSmall(bytes[from])) {
                int word = joiningWord(from, to);
                return word != ANOTHER_WORD ? word : askingWord(from, to);
            }
            return isDigit(bytes[from]) ? numberOf(from, to) : SIGN + bytes[from];
        }

        /** A row of digits may be longer than an int is. */
        private int numberOf(int from, int to) {
            int number = 0;
            for (int at = from; at < to; at++) {
                number = Math.min(number * 10 + bytes[at] - '0', TOO_MUCH);
            }
            return number;
        }

        private int joiningWord(int from, int to) {
            return is("stands", from, to) ? WORD_STANDS
                    : is("holds", from, to) ? WORD_HOLDS
                    : is("if", from, to) ? WORD_IF
                    : is("or", from, to) ? WORD_OR
                    : is("and", from, to) ? WORD_AND
                    : is("not", from, to) ? WORD_NOT
                    : is("spill", from, to) ? WORD_SPILL
                    : is("at", from, to) ? WORD_AT
                    : is("raise", from, to) ? WORD_RAISE
                    : is("to", from, to) ? WORD_TO
                    : is("split", from, to) ? WORD_SPLIT
                    : is("by", from, to) ? WORD_BY
                    : is("pass", from, to) ? WORD_PASS
                    : is("times", from, to) ? WORD_TIMES
                    : ANOTHER_WORD;
        }

        private int askingWord(int from, int to) {
            return is("x", from, to) ? WORD_X
                    : is("y", from, to) ? WORD_Y
                    : is("high", from, to) ? WORD_HIGH
                    : is("many", from, to) ? WORD_MANY
                    : is("hour", from, to) ? WORD_HOUR
                    : is("cold", from, to) ? WORD_COLD
                    : is("mood", from, to) ? WORD_MOOD
                    : is("done", from, to) ? WORD_DONE
                    : is("latest", from, to) ? WORD_LATEST
                    : is("left", from, to) ? WORD_LEFT
                    : is("read", from, to) ? WORD_READ
                    : ANOTHER_WORD;
        }

        private boolean is(String word, int from, int to) {
            if (to - from != word.length()) {
                return false;
            }
            for (int i = 0; i < word.length(); i++) {
                if (bytes[from + i] != word.charAt(i)) {
                    return false;
                }
            }
            return true;
        }
    }

    /** Clauses, whose sums and tests are rows of steps that a calculator works. */
    private static final class Text {
        /**
         * Its first steps are a 1: where a clause has no "if", no sum, it points there, so that none
         * has to be told apart. Each other step has a byte of the tape of its own.
         */
        private final int[] code = new int[MOST_BYTES + 2];
        private int size;
        private int clauses;
        private final int[] kind = new int[MOST_CLAUSES];
        private final int[] first = new int[MOST_CLAUSES];
        private final int[] second = new int[MOST_CLAUSES];
        private final int[] times = new int[MOST_CLAUSES];
        private final int[] test = new int[MOST_CLAUSES];

        void copy(Text other) {
            System.arraycopy(other.code, 0, code, 0, code.length);
            size = other.size;
            clauses = other.clauses;
            System.arraycopy(other.kind, 0, kind, 0, MOST_CLAUSES);
            System.arraycopy(other.first, 0, first, 0, MOST_CLAUSES);
            System.arraycopy(other.second, 0, second, 0, MOST_CLAUSES);
            System.arraycopy(other.times, 0, times, 0, MOST_CLAUSES);
            System.arraycopy(other.test, 0, test, 0, MOST_CLAUSES);
        }

        void clear() {
            size = 0;
            clauses = 0;
            add(PUSH, 1);
            add(STOP, 0);
        }

        /** A clause that asks nothing; false: there are as many as can be. */
        boolean open() {
            if (clauses >= MOST_CLAUSES) {
                return false;
            }
            kind[clauses] = NONE;
            first[clauses] = 0;
            second[clauses] = 0;
            times[clauses] = 1;
            test[clauses] = 0;
            clauses++;
            return true;
        }

        void add(int step, int number) {
            if (size < code.length) {
                code[size] = number << STEP_BITS | step;
                size++;
            }
        }

        /** The step there leads on to behind all that has been written. */
        void leadHere(int place) {
            if (place >= 0 && place < size) {
                code[place] = size << STEP_BITS | code[place] & STEP_MASK;
            }
        }
    }

    /**
     * Reads a text from the tape. A method that answers false leaves it at the token that can't go
     * on there; so that one's start is the fault. Depth is that of brackets.
     */
    private static final class Reader {
        private final Tape tape;
        private Text text;
        private boolean forOrders;
        private int parts;
        private int at;

        Reader(Tape tape) {
            this.tape = tape;
        }

        /** The fault; NONE without. */
        int read(Text into, boolean asOrders) {
            text = into;
            text.clear();
            forOrders = asOrders;
            parts = 0;
            at = 0;
            tape.cut();
            for (int clause = 0; clause < MOST_CLAUSES && text.open(); clause++) {
                boolean well = forOrders ? readOrder(clause) : readRule(clause);
                if (!well || !readIf(clause)) {
                    break;
                }
                if (token() == NO_MORE) {
                    return NONE;
                }
                if (!took(SIGN + ';')) {
                    break;
                }
            }
            return tape.start[at];
        }

        private int token() {
            return tape.token[at];
        }

        private void goOn() {
            if (at < tape.tokens - 1) {
                at++;
            }
        }

        private boolean took(int wanted) {
            boolean is = tape.token[at] == wanted;
            if (is && at < tape.tokens - 1) {
                at++;
            }
            return is;
        }

        private boolean readRule(int clause) {
            if (took(WORD_HOLDS)) {
                text.kind[clause] = HOLDS;
                return true;
            }
            if (!took(WORD_STANDS)) {
                return false;
            }
            text.kind[clause] = STANDS;
            text.first[clause] = text.size;
            return endRow(sum(0));
        }

        private boolean readOrder(int clause) {
            boolean well;
            if (took(WORD_PASS)) {
                text.kind[clause] = PASS;
                well = true;
            } else if (took(WORD_SPILL)) {
                well = readTwo(clause, SPILL, WORD_AT);
            } else if (took(WORD_RAISE)) {
                well = readTwo(clause, RAISE, WORD_TO);
            } else if (took(WORD_SPLIT)) {
                well = readTwo(clause, SPLIT, WORD_BY);
            } else {
                well = false;
            }
            return well && readTimes(clause);
        }

        private boolean readTwo(int clause, int kind, int between) {
            text.kind[clause] = kind;
            text.first[clause] = text.size;
            if (!endRow(sum(0)) || !took(between)) {
                return false;
            }
            text.second[clause] = text.size;
            return endRow(sum(0));
        }

        private boolean readTimes(int clause) {
            if (!took(WORD_TIMES)) {
                return true;
            }
            if (token() < 1 || token() > MOST_TIMES) {
                return false;
            }
            text.times[clause] = token();
            goOn();
            return true;
        }

        private boolean readIf(int clause) {
            if (!took(WORD_IF)) {
                return true;
            }
            text.test[clause] = text.size;
            return endRow(test(0));
        }

        private boolean endRow(boolean well) {
            text.add(STOP, 0);
            return well;
        }

        private boolean test(int depth) {
            if (!both(depth)) {
                return false;
            }
            for (int n = 0; n < MOST_BYTES && took(WORD_OR); n++) {
                int skip = text.size;
                text.add(OR, 0);
                if (!both(depth)) {
                    return false;
                }
                text.leadHere(skip);
            }
            return true;
        }

        private boolean both(int depth) {
            if (!plain(depth)) {
                return false;
            }
            for (int n = 0; n < MOST_BYTES && took(WORD_AND); n++) {
                int skip = text.size;
                text.add(AND, 0);
                if (!plain(depth)) {
                    return false;
                }
                text.leadHere(skip);
            }
            return true;
        }

        /** A row of "not" is counted and not gone down, for no limit keeps it low. */
        private boolean plain(int depth) {
            boolean turned = false;
            for (int n = 0; n < MOST_BYTES && took(WORD_NOT); n++) {
                turned = !turned;
            }
            boolean well = token() == SIGN + '(' ? bracketed(depth) : comparison(depth);
            if (well && turned) {
                text.add(NOT, 0);
            }
            return well;
        }

        private boolean bracketed(int depth) {
            if (depth >= MOST_BRACKETS) {
                return false;
            }
            goOn();
            return test(depth + 1) && took(SIGN + ')');
        }

        private boolean comparison(int depth) {
            if (!sum(depth)) {
                return false;
            }
            int step = took(SIGN + '<') ? LESS : took(SIGN + '>') ? MORE : took(SIGN + '=') ? SAME : NONE;
            if (step == NONE || !sum(depth)) {
                return false;
            }
            text.add(step, 0);
            return true;
        }

        private boolean sum(int depth) {
            if (!term(depth)) {
                return false;
            }
            for (int n = 0; n < MOST_BYTES; n++) {
                int step = took(SIGN + '+') ? PLUS : took(SIGN + '-') ? MINUS : NONE;
                if (step == NONE) {
                    return true;
                }
                if (!term(depth)) {
                    return false;
                }
                text.add(step, 0);
            }
            return true;
        }

        private boolean term(int depth) {
            if (!part(depth)) {
                return false;
            }
            for (int n = 0; n < MOST_BYTES; n++) {
                int step = took(SIGN + '*') ? TIMES : took(SIGN + '/') ? OVER : took(SIGN + '%') ? REST : NONE;
                if (step == NONE) {
                    return true;
                }
                if (!part(depth)) {
                    return false;
                }
                text.add(step, 0);
            }
            return true;
        }

        private boolean part(int depth) {
            if (token() == SIGN + '[') {
                if (depth >= MOST_BRACKETS) {
                    return false;
                }
                goOn();
                return sum(depth + 1) && took(SIGN + ']');
            }
            if (parts >= MOST_PARTS) {
                return false;
            }
            parts++;
            if (token() <= MOST_NUMBER) {
                return write(PUSH, token());
            }
            if (!forOrders) {
                return write(FACT, lawFact());
            }
            if (took(WORD_AT)) {
                return write(FACT, factOf(ORDER_AT, LETTERS));
            }
            if (took(WORD_HIGH)) {
                return write(FACT, factOf(ORDER_HIGH, CELLS));
            }
            return write(FACT, orderFact());
        }

        /** With it goes the token that is looked at; NONE: that one can't be a part. */
        private boolean write(int step, int number) {
            if (number == NONE) {
                return false;
            }
            text.add(step, number);
            goOn();
            return true;
        }

        /** Of which letter, cell: a number below so many. */
        private int factOf(int facts, int many) {
            return token() < many ? facts + token() : NONE;
        }

        private int lawFact() {
            switch (token()) {
                case WORD_X:
                    return LAW_X;
                case WORD_Y:
                    return LAW_Y;
                case WORD_HIGH:
                    return LAW_HIGH;
                case WORD_MANY:
                    return LAW_MANY;
                case WORD_HOUR:
                    return LAW_HOUR;
                case WORD_COLD:
                    return LAW_COLD;
                case WORD_MOOD:
                    return LAW_MOOD;
                default:
                    return NONE;
            }
        }

        private int orderFact() {
            switch (token()) {
                case WORD_HOUR:
                    return ORDER_HOUR;
                case WORD_DONE:
                    return ORDER_DONE;
                case WORD_LATEST:
                    return ORDER_LATEST;
                case WORD_LEFT:
                    return ORDER_LEFT;
                case WORD_READ:
                    return ORDER_READ;
                default:
                    return NONE;
            }
        }
    }

    /** Works the steps of sums and tests (1: so, 0: not). */
    private static final class Calculator {
        private final int[] stack = new int[MOST_PARTS];

        /** What stands there comes to, up to its STOP; BROKEN as soon as a part that is asked is. */
        int work(Text text, int from, int[] facts) {
            int top = NONE;
            for (int at = from; at >= 0 && at < text.size; at++) {
                int step = text.code[at] & STEP_MASK;
                int number = text.code[at] >> STEP_BITS;
                if (step == PUSH || step == FACT) {
                    top++;
                    boolean noFact = number < 0 || number >= facts.length;
                    if (top >= MOST_PARTS || step == FACT && noFact) {
                        return BROKEN;
                    }
                    stack[top] = step == PUSH ? number : facts[number];
                    continue;
                }
                if (top < 0) {
                    return BROKEN;
                }
                if (step == STOP) {
                    return stack[top];
                }
                if (step == NOT) {
                    stack[top] = 1 - stack[top];
                } else if (step == OR || step == AND) {
                    if (stack[top] == (step == OR ? 1 : 0)) {
                        at = Math.max(at, number - 1);
                    } else {
                        top--;
                    }
                } else {
                    if (top < 1) {
                        return BROKEN;
                    }
                    top--;
                    stack[top] = joined(step, stack[top], stack[top + 1]);
                    if (stack[top] == BROKEN) {
                        return BROKEN;
                    }
                }
            }
            return BROKEN;
        }

        private static int joined(int step, int left, int right) {
            if ((step == OVER || step == REST) && right == 0) {
                return BROKEN;
            }
            long a = left;
            long got;
            switch (step) {
                case PLUS:
                    got = a + right;
                    break;
                case MINUS:
                    got = a - right;
                    break;
                case TIMES:
                    got = a * right;
                    break;
                case OVER:
                    got = a / right;
                    break;
                case REST:
                    got = a % right;
                    break;
                case LESS:
                    return left < right ? 1 : 0;
                case MORE:
                    return left > right ? 1 : 0;
                default:
                    return left == right ? 1 : 0;
            }
            return got > TOP_SUM || got < -TOP_SUM ? BROKEN : (int) got;
        }
    }

    /** How the cells stand at a moment by a law; each is asked once and only if something wants it. */
    private static final class Slope {
        private final Calculator calculator;
        private final int[] facts = new int[LAW_FACTS];
        private final int[] stands = new int[CELLS];
        private final int[] whither = new int[LETTERS];
        private final Kept kept;
        private Moment moment;
        private int law = NONE;
        private int kerbs;
        private int known;
        private int held;

        Slope(Calculator calculator, Kept kept) {
            this.calculator = calculator;
            this.kept = kept;
            this.moment = kept.moment;
        }

        void face(Moment at, int byLaw) {
            moment = at;
            law = byLaw;
            kerbs = 0;
            known = 0;
        }

        int standOf(int cell) {
            learn(cell);
            return stands[cell];
        }

        boolean holdsAt(int cell) {
            learn(cell);
            return isAmong(cell, held);
        }

        /** Where a drop runs from a cell; the cell itself, if it stays. */
        int next(int cell) {
            learn(cell);
            if (kept.hasDoor(cell) || isAmong(cell, held)) {
                return cell;
            }
            int lowest = cell;
            for (int way = 0; way < WAYS; way++) {
                int other = beside(cell, way);
                if (other != NONE) {
                    learn(other);
                    if (stands[other] < stands[lowest]) {
                        lowest = other;
                    }
                }
            }
            return lowest;
        }

        private void learn(int cell) {
            if (isAmong(cell, known)) {
                return;
            }
            known |= 1 << cell;
            held &= ~(1 << cell);
            fillFacts(cell);
            stands[cell] = facts[LAW_HIGH];
            if (law < 0 || law >= kept.laws) {
                return;
            }
            Text text = kept.law[law];
            for (int clause = 0; clause < text.clauses; clause++) {
                if (calculator.work(text, text.test[clause], facts) != 1) {
                    continue;
                }
                if (text.kind[clause] == HOLDS) {
                    held |= 1 << cell;
                    continue;
                }
                int stand = calculator.work(text, text.first[clause], facts);
                if (stand != BROKEN) {
                    stands[cell] = Math.max(0, Math.min(TOP_STAND, stand));
                }
            }
        }

        private void fillFacts(int cell) {
            facts[LAW_X] = cell % SIDE;
            facts[LAW_Y] = cell / SIDE;
            facts[LAW_HIGH] = isAmong(cell, kerbs) ? TOP_HIGH : moment.high[cell];
            facts[LAW_MANY] = Integer.bitCount(moment.lettersOn(cell));
            facts[LAW_HOUR] = moment.hour;
            facts[LAW_COLD] = kept.cold;
            facts[LAW_MOOD] = kept.mood;
        }

        /** Where a run would end, if cells were 9 high; a law asks a cell of its own height alone. */
        int endWithKerbs(int from, int bits) {
            known &= ~(kerbs | bits);
            kerbs = bits;
            int at = from;
            int to = next(at);
            for (int n = 0; n < CELLS && to != at; n++) {
                at = to;
                to = next(at);
            }
            return at;
        }

        /** An hour, in the yard or on paper: how many are read in it. Its number has no end here. */
        int passHour(Moment passing) {
            face(passing, kept.force);
            // all that run are asked ahead of the first that moves
            for (int letter = 0; letter < LETTERS; letter++) {
                if (passing.state[letter] == IS_ON) {
                    whither[letter] = next(passing.spot[letter]);
                }
            }
            int read = 0;
            for (int letter = 0; letter < LETTERS; letter++) {
                if (passing.state[letter] != IS_ON) {
                    continue;
                }
                if (kept.hasDoor(passing.spot[letter])) {
                    passing.state[letter] = IS_READ;
                    passing.readIn[letter] = passing.hour;
                    read++;
                } else {
                    passing.spot[letter] = whither[letter];
                }
            }
            passing.hour++;
            return read;
        }
    }

    /** The runs from all cells, of drops alone, all laws asked as all is. */
    private static final class Streams {
        private final int[] next = new int[CELLS];
        private final int[] hours = new int[CELLS];
        private final int[] ends = new int[CELLS];
        private final int[] kindOf = new int[MOST_APART];
        private final int[] chosen = new int[MOST_APART];
        private int doors;

        void trace(Slope slope, int withDoors) {
            doors = withDoors;
            for (int cell = 0; cell < CELLS; cell++) {
                next[cell] = slope.next(cell);
            }
            for (int cell = 0; cell < CELLS; cell++) {
                int at = cell;
                int many = 0;
                while (many < CELLS && next[at] != at) {
                    at = next[at];
                    many++;
                }
                hours[cell] = many;
                ends[cell] = at;
            }
        }

        int placeAfter(int cell, int i) {
            int at = cell;
            for (int n = 0; n < i && n < hours[cell]; n++) {
                at = next[at];
            }
            return at;
        }

        private boolean isGone(int cell, int i) {
            return isAmong(ends[cell], doors) && i > hours[cell];
        }

        int endingAt(int cell) {
            int bits = 0;
            for (int from = 0; from < CELLS; from++) {
                if (ends[from] == cell) {
                    bits |= 1 << from;
                }
            }
            return bits;
        }

        private int cellsOf(int cell) {
            int bits = 0;
            for (int n = 0; n <= hours[cell]; n++) {
                bits |= 1 << placeAfter(cell, n);
            }
            return bits;
        }

        int firstOnBoth(int one, int other) {
            int others = cellsOf(other);
            for (int n = 0; n <= hours[one]; n++) {
                int at = placeAfter(one, n);
                if (isAmong(at, others)) {
                    return at;
                }
            }
            return NONE;
        }

        /** The one spilt, the other d hours later; behind CELLS hours more both are at their ends or gone. */
        boolean everOnOne(int one, int other, int d) {
            for (int n = 0; n <= CELLS; n++) {
                boolean both = !isGone(one, n + d) && !isGone(other, n);
                if (both && placeAfter(one, n + d) == placeAfter(other, n)) {
                    return true;
                }
            }
            return false;
        }

        /**
         * How many kinds; the row of them is in kindOf. The first kind that is free is always the
         * right one: drops that were on one cell run on as one, so cells that clash with the same
         * one clash with each other, and the most that clash with one another are the fewest kinds.
         */
        int sortApart(int cells) {
            int many = 0;
            int kinds = 0;
            for (int cell = 0; cell < CELLS && many < MOST_APART; cell++) {
                if (isAmong(cell, cells)) {
                    chosen[many] = cell;
                    kindOf[many] = firstFreeKind(many);
                    kinds = Math.max(kinds, kindOf[many] + 1);
                    many++;
                }
            }
            return kinds;
        }

        private int firstFreeKind(int k) {
            int taken = 0;
            for (int earlier = 0; earlier < k; earlier++) {
                if (everOnOne(chosen[earlier], chosen[k], 0)) {
                    taken |= 1 << kindOf[earlier];
                }
            }
            return Integer.numberOfTrailingZeros(~taken);
        }

        int unreached() {
            int reached = 0;
            for (int cell = 0; cell < CELLS; cell++) {
                if (next[cell] != cell) {
                    reached |= 1 << next[cell];
                }
            }
            return ALL_CELLS & ~reached;
        }

        int stillWithoutDoor() {
            int bits = 0;
            for (int cell = 0; cell < CELLS; cell++) {
                if (next[cell] == cell && !isAmong(cell, doors)) {
                    bits |= 1 << cell;
                }
            }
            return bits;
        }

        int farthest() {
            int from = 0;
            for (int cell = 1; cell < CELLS; cell++) {
                if (hours[cell] > hours[from]) {
                    from = cell;
                }
            }
            return from;
        }
    }

    /** Where the letters would be in the hours that can be seen. */
    private static final class Watch {
        private final int[] places = new int[(SEEN_HOURS + 1) * LETTERS];

        void note(int hour, Moment moment) {
            System.arraycopy(moment.spot, 0, places, hour * LETTERS, LETTERS);
        }

        int lettersSeen(Kept kept, Moment now) {
            int bits = 0;
            for (int letter = 0; letter < LETTERS; letter++) {
                if (now.state[letter] != IS_IN && isAtAllSeen(kept, letter)) {
                    bits |= 1 << letter;
                }
            }
            return bits;
        }

        private boolean isAtAllSeen(Kept kept, int letter) {
            for (int k = 0; k < kept.seen; k++) {
                if (places[kept.seenIn[k] * LETTERS + letter] != kept.seenAt[k]) {
                    return false;
                }
            }
            return true;
        }

        int mostAtOne(int hour, int letters) {
            int most = 0;
            for (int letter = 0; letter < LETTERS; letter++) {
                int many = 0;
                for (int other = 0; other < LETTERS; other++) {
                    if (isAmong(other, letters)
                            && places[hour * LETTERS + other] == places[hour * LETTERS + letter]) {
                        many++;
                    }
                }
                if (isAmong(letter, letters)) {
                    most = Math.max(most, many);
                }
            }
            return most;
        }

        int bestHour(int letters) {
            int best = 0;
            for (int hour = 1; hour <= SEEN_HOURS; hour++) {
                if (mostAtOne(hour, letters) < mostAtOne(best, letters)) {
                    best = hour;
                }
            }
            return best;
        }
    }
}
