/**
 * The document read once more, promise by promise: a test of its own for each sentence that names a
 * boundary (too small, too large, empty, full, a wrap-around). Methods bear the promises' numbers.
 */
public final class EdgesTest {
    private static final int FAR = 2147483647;
    private static final int LOW = -2147483648;
    private static final int ALL = 33554431;
    private static final int[] NO_CELLS = {-1, 25, FAR, LOW};
    private static final int[] NO_LETTERS = {-1, 8, FAR, LOW};

    private final Checks checks = new Checks("EdgesTest");
    private String at = "";

    private EdgesTest() {
    }

    public static void main(String[] args) {
        EdgesTest t = new EdgesTest();
        t.p01NewObject();
        t.p02Cell();
        t.p02Stands();
        t.p02RunsWithinTheYard();
        t.p03Door();
        t.p04Letter();
        t.p05Terms();
        t.p06Feed();
        t.p07End();
        t.p08Row();
        t.p09Beads();
        t.p10Law();
        t.p11Orders();
        t.p11OrdersWords();
        t.p12Fault();
        t.p13Stopped();
        t.p14Force();
        t.p15Spill();
        t.p16Raise();
        t.p17Split();
        t.p18Pass();
        t.p19Undo();
        t.p19UndoIsCleared();
        t.p20Later();
        t.p21ReadWith();
        t.p22Run();
        t.p23Basin();
        t.p24Meeting();
        t.p25Delay();
        t.p26Apart();
        t.p27Kerbs();
        t.p27KerbsByLaws();
        t.p28SpringsPools();
        t.p30Longest();
        t.p31Seen();
        t.p33CanBe();
        t.p34Look();
        t.p35Few();
        t.p36Compare();
        t.p37Days();
        t.p38Drawn();
        t.p39Images();
        t.p41Count();
        t.p42Status();
        t.checks.end();
    }

    private void due(String call, long got, long want) {
        checks.due(at + ": " + call, got, want);
    }

    private MercuryPost begin(String what) {
        at = what;
        return new MercuryPost();
    }

    /** All cells as high as told; none has a door. */
    private MercuryPost yard(String what, int... high) {
        MercuryPost p = begin(what);
        int[] bytes = new int[75];
        for (int cell = 0; cell < 25; cell++) {
            bytes[cell * 3] = cell;
            bytes[cell * 3 + 1] = high[cell];
        }
        Checks.row(p, bytes);
        return p;
    }

    /** All cells 9 high, but for those told: a cell, how high, a cell, how high. */
    private MercuryPost walls(String what, int... but) {
        int[] high = new int[25];
        java.util.Arrays.fill(high, 9);
        for (int i = 0; i < but.length; i += 2) {
            high[but[i]] = but[i + 1];
        }
        return yard(what, high);
    }

    private static void law(MercuryPost p, String text) {
        p.force(Checks.law(p, text));
    }

    // A flat yard without doors; all letters IN; no law in FORCE; HOUR 0, COLD 1, MOOD 0.
    private void p01NewObject() {
        MercuryPost p = begin("1");
        int[] flat = {0, 0, 0, 0, 0};
        for (int cell = 0; cell < 25; cell++) {
            for (int what = 0; what < 5; what++) {
                due("cell(" + cell + ", " + what + ")", p.cell(cell, what), flat[what]);
            }
            due("cell(" + cell + ", 5)", p.cell(cell, 5), cell);
        }
        for (int letter = 0; letter < 8; letter++) {
            due("letter(" + letter + ", 0)", p.letter(letter, 0), 0);
            due("letter(" + letter + ", 1)", p.letter(letter, 1), -1);
            due("letter(" + letter + ", 2)", p.letter(letter, 2), -1);
        }
        due("springs()", p.springs(), ALL);
        due("pools()", p.pools(), ALL);
        due("longest(0)", p.longest(0), 0);
        due("longest(1)", p.longest(1), 0);
        due("canBe()", p.canBe(), 0);
        due("look(0)", p.look(0), -1);
        due("look(1)", p.look(1), -1);
        due("forget()", p.forget(), 0);
        due("pass()", p.pass(), 0);
        due("count(13)", p.count(13), 1);
        MercuryPost q = begin("1, the first call");
        due("terms(1, 1)", q.terms(1, 1), 1);
        due("terms(0, 0)", q.terms(0, 0), 0);
        due("terms(2, 0)", q.terms(2, 0), 0);
        due("force(NONE)", q.force(-1), -1);
        due("back(1)", q.back(1), -2);
        due("end(0)", q.end(0), 0);
    }

    private void p02Cell() {
        MercuryPost p = begin("2");
        p.raise(24, 9);
        p.door(24, 1);
        due("cell(24, 0)", p.cell(24, 0), 9);
        due("cell(24, 1)", p.cell(24, 1), 1);
        due("cell(24, 3)", p.cell(24, 3), 9);
        due("cell(24, 5): a door, though others stand lower", p.cell(24, 5), 24);
        for (int cell : NO_CELLS) {
            for (int what = 0; what < 6; what++) {
                due("cell(" + cell + ", " + what + ")", p.cell(cell, what), -1);
            }
        }
        for (int what : new int[] {-1, 6, 7, FAR, LOW}) {
            due("cell(0, " + what + ")", p.cell(0, what), -1);
            due("cell(24, " + what + ")", p.cell(24, what), -1);
        }
        for (int letter = 0; letter < 8; letter++) {
            due("cell(24, 2)", p.cell(24, 2), (1 << letter) - 1);
            p.spill(letter, 24);
        }
        due("cell(24, 2): all", p.cell(24, 2), 255);
        p.pass();
        due("cell(24, 2): READ ones are not ON it", p.cell(24, 2), 0);
    }

    // A CELL STANDS 0 .. 99 as the last "stands" that HOLDS tells (else the nearest).
    private void p02Stands() {
        MercuryPost p = begin("2, how it stands");
        law(p, "stands 97 + x");
        int[] high = {97, 98, 99, 99, 99};
        for (int x = 0; x < 5; x++) {
            due("cell(" + x + ", 3)", p.cell(x, 3), high[x]);
        }
        law(p, "stands 2 - x");
        int[] low = {2, 1, 0, 0, 0};
        for (int x = 0; x < 5; x++) {
            due("cell(" + x + ", 3)", p.cell(x, 3), low[x]);
        }
        due("cell(2, 5): 3 stands no lower", p.cell(2, 5), 2);
        law(p, "stands 1000 * 1000 * 1000");
        due("cell(0, 3): the most that a sum can be", p.cell(0, 3), 99);
        law(p, "stands 0 - 1000 * 1000 * 1000");
        due("cell(0, 3): the least", p.cell(0, 3), 0);
        law(p, "stands 5; stands 1000 * 1000 * 1000 + 1");
        due("cell(0, 3): BROKEN", p.cell(0, 3), 5);
        due("a sixth", Checks.law(p, "stands 5; stands 0 - 1000 * 1000 * 1000 - 1"), 5);
        p.force(5);
        due("cell(0, 3): BROKEN", p.cell(0, 3), 5);
        MercuryPost q = begin("2, held");
        q.raise(12, 1);
        law(q, "holds if 1 / x > 0 - 1 and y = 2");
        due("cell(11, 4)", q.cell(11, 4), 1);
        due("cell(10, 4): its if is BROKEN", q.cell(10, 4), 0);
        due("cell(6, 4)", q.cell(6, 4), 0);
        due("cell(12, 5)", q.cell(12, 5), 12);
        q.force(-1);
        due("cell(12, 4) without a law", q.cell(12, 4), 0);
        due("cell(12, 5)", q.cell(12, 5), 17);
    }

    // Beside: within the YARD; rows do not go on in the next one.
    private void p02RunsWithinTheYard() {
        for (int low = 0; low < 25; low++) {
            MercuryPost p = walls("2, all run to " + low, low, 0);
            for (int cell = 0; cell < 25; cell++) {
                int far = Math.abs(cell % 5 - low % 5) + Math.abs(cell / 5 - low / 5);
                due("cell(" + cell + ", 5)", p.cell(cell, 5), far == 1 ? low : cell);
            }
        }
    }

    private void p03Door() {
        MercuryPost p = begin("3");
        for (int cell = 0; cell < 25; cell++) {
            due("door(" + cell + ", 0): none yet", p.door(cell, 0), 0);
            due("door(" + cell + ", 1)", p.door(cell, 1), 0);
            due("count(0)", p.count(0), (1 << cell + 1) - 1);
        }
        due("count(0): all", p.count(0), ALL);
        due("pools()", p.pools(), 0);
        due("door(24, 1): it has one", p.door(24, 1), 1);
        for (int cell : NO_CELLS) {
            due("door(" + cell + ", 1)", p.door(cell, 1), -1);
            due("status()", p.status(), -1);
        }
        for (int is : new int[] {-1, 2, 3, FAR, LOW}) {
            due("door(0, " + is + ")", p.door(0, is), -1);
        }
        due("count(0)", p.count(0), ALL);
        due("count(7)", p.count(7), 9);
        due("door(0, 0)", p.door(0, 0), 1);
        due("door(0, 0): it has none", p.door(0, 0), 0);
        due("count(0)", p.count(0), ALL - 1);
    }

    private void p04Letter() {
        MercuryPost p = begin("4");
        p.door(0, 1);
        p.spill(0, 0);
        p.spill(7, 24);
        p.pass();
        due("letter(0, 0)", p.letter(0, 0), 2);
        due("letter(0, 1)", p.letter(0, 1), 0);
        due("letter(0, 2): the first hour", p.letter(0, 2), 0);
        due("letter(7, 0)", p.letter(7, 0), 1);
        due("letter(7, 1)", p.letter(7, 1), 24);
        due("letter(7, 2)", p.letter(7, 2), -1);
        p.spill(1, 0);
        p.terms(0, 998);
        p.pass();
        due("letter(1, 2): the last hour that can be", p.letter(1, 2), 998);
        due("letter(0, 2)", p.letter(0, 2), 0);
        for (int what : new int[] {-1, 3, FAR, LOW}) {
            due("letter(0, " + what + ")", p.letter(0, what), -1);
        }
        for (int letter : NO_LETTERS) {
            for (int what = 0; what < 3; what++) {
                due("letter(" + letter + ", " + what + ")", p.letter(letter, what), -1);
            }
        }
    }

    // 0 HOUR 0 .. 999, 1 COLD 0 .. 10, 2 MOOD 0 .. 9.
    private void p05Terms() {
        MercuryPost p = begin("5");
        int[] top = {999, 10, 9};
        int[] first = {0, 1, 0};
        for (int what = 0; what < 3; what++) {
            due("terms(" + what + ", top)", p.terms(what, top[what]), first[what]);
            for (int value : new int[] {top[what] + 1, -1, FAR, LOW}) {
                due("terms(" + what + ", " + value + ")", p.terms(what, value), -1);
                due("status()", p.status(), -1);
                due("count(" + (13 + what) + ")", p.count(13 + what), top[what]);
            }
            due("terms(" + what + ", 0)", p.terms(what, 0), top[what]);
            due("terms(" + what + ", 0): it is so", p.terms(what, 0), 0);
            due("status()", p.status(), 0);
        }
        for (int what : new int[] {-1, 3, FAR, LOW}) {
            due("terms(" + what + ", 0)", p.terms(what, 0), -1);
        }
        due("count(7)", p.count(7), 16);
    }

    private void p06Feed() {
        MercuryPost p = begin("6");
        int zeroOne = 0x00010001;
        due("feed", p.feed(0x00010002, 0x01FFFFFF, 0x80FFFFFF, -1, FAR), 20);
        due("row()", p.row(), 1);
        due("cell(0, 0): the highest byte first", p.cell(0, 0), 1);
        due("beads()", p.beads(), 6);
        for (int n = 1; n < 20; n++) {
            due("feed", p.feed(0, 0, 0, 0, 0), n * 20);
        }
        due("count(6)", p.count(6), 380);
        due("feed to the full", p.feed(zeroOne, zeroOne, zeroOne, zeroOne, zeroOne), 400);
        for (int n = 0; n < 3; n++) {
            due("feed beyond", p.feed(-1, -1, -1, -1, -1), -1);
            due("count(6)", p.count(6), 400);
        }
        due("end(399)", p.end(399), 399);
        due("feed beyond by 19", p.feed(-1, -1, -1, -1, -1), -1);
        due("end(381)", p.end(381), 381);
        due("feed beyond by 1", p.feed(-1, -1, -1, -1, -1), -1);
        due("count(6): nothing came", p.count(6), 381);
        due("status()", p.status(), 0);
        due("row(): and nothing else is on it", p.row(), 127);
        due("beads()", p.beads(), 0);
        due("feed behind row()", p.feed(0, 0, 0, 0, 0), 20);
    }

    private void p07End() {
        MercuryPost p = begin("7");
        due("end(0): empty", p.end(0), 0);
        for (int n : new int[] {1, -1, 400, FAR, LOW}) {
            due("end(" + n + "): empty", p.end(n), -1);
        }
        Checks.feed(p, "holds if x = 1");
        due("count(6)", p.count(6), 14);
        due("end(15)", p.end(15), -1);
        due("end(-1)", p.end(-1), -1);
        due("end(14): all", p.end(14), 14);
        due("end(5)", p.end(5), 5);
        due("end(6): they are gone", p.end(6), -1);
        int[] five = Checks.fives(" if y = 3", 0);
        due("feed: behind the first five", p.feed(five[0], five[1], five[2], five[3], five[4]), 25);
        due("law()", p.law(), 0);
        p.force(0);
        due("cell(15, 4)", p.cell(15, 4), 1);
        due("cell(1, 4)", p.cell(1, 4), 0);
        due("end(1) behind law()", p.end(1), -1);
        due("end(0)", p.end(0), 0);
        due("status()", p.status(), 0);
    }

    // By threes: a CELL, HIGH, 1 a DOOR or 0 none; one that can't be, one within which the TAPE ends is a BEAD.
    private void p08Row() {
        MercuryPost p = begin("8");
        int[][] can = {{0, 0, 0}, {24, 9, 1}, {24, 0, 0}, {0, 9, 0}, {7, 4, 1}};
        for (int[] one : can) {
            due("row of " + one[0], Checks.row(p, one), 1);
            due("beads()", p.beads(), 0);
            due("cell(, 0)", p.cell(one[0], 0), one[1]);
            due("cell(, 1)", p.cell(one[0], 1), one[2]);
        }
        int[][] not = {{25, 0, 0}, {255, 0, 0}, {128, 0, 0}, {0, 10, 0}, {0, 255, 0}, {0, 0, 2}, {0, 0, 255}, {7}, {7, 2}};
        for (int[] one : not) {
            due("row of a bead", Checks.row(p, one), 0);
            due("beads()", p.beads(), 1);
            due("status()", p.status(), 0);
            due("count(6)", p.count(6), 0);
        }
        due("cell(0, 0)", p.cell(0, 0), 9);
        due("cell(0, 1)", p.cell(0, 1), 0);
        due("cell(7, 0)", p.cell(7, 0), 4);
        due("cell(7, 1)", p.cell(7, 1), 1);
        due("a bead is passed by threes", Checks.row(p, 25, 3, 1, 3, 1, 1), 1);
        due("beads()", p.beads(), 1);
        due("cell(3, 0)", p.cell(3, 0), 1);
        due("row(): empty", p.row(), -6);
        due("status()", p.status(), -6);
        due("beads() stay", p.beads(), 1);
        int[] full = new int[400];
        for (int i = 0; i + 2 < 400; i += 3) {
            full[i] = 24;
            full[i + 1] = i == 396 ? 7 : 5;
        }
        full[399] = 0;
        due("a full one: 133 and a byte", Checks.row(p, full), 133);
        due("beads()", p.beads(), 1);
        due("cell(24, 0): the last", p.cell(24, 0), 7);
        due("a row of all cells", Checks.row(p, new int[75]), 25);
    }

    private void p09Beads() {
        MercuryPost p = begin("9");
        due("beads(): ahead of any", p.beads(), 0);
        p.row();
        due("beads(): ahead of any that was not REFUSED", p.beads(), 0);
        int[] full = new int[400];
        java.util.Arrays.fill(full, 255);
        due("row of beads", Checks.row(p, full), 0);
        due("beads(): 133 and one within which it ends", p.beads(), 134);
        p.row();
        due("beads(): a row() that was REFUSED", p.beads(), 134);
        p.image(0);
        p.back(0);
        due("beads() behind back()", p.beads(), 134);
        Checks.row(p, 0, 0, 0);
        due("beads(): none", p.beads(), 0);
    }

    // LAWS, 6 at most; -5 ahead of reading it; the TAPE is empty then, too.
    private void p10Law() {
        MercuryPost p = begin("10");
        p.raise(0, 3);
        for (int n = 0; n < 6; n++) {
            due("law() of an empty tape", p.law(), -6);
            due("law() that can't be read", Checks.law(p, "holds if"), -6);
            due("count(6)", p.count(6), 0);
            due("count(4): it is none", p.count(4), n);
            due("law", Checks.law(p, "stands " + (n + 60)), n);
            due("count(6)", p.count(6), 0);
            due("count(4)", p.count(4), n + 1);
            if (n == 4) {
                p.image(0);
            }
        }
        due("fault()", p.fault(), -1);
        due("law, a seventh", Checks.law(p, "stands 1"), -5);
        due("count(6)", p.count(6), 0);
        due("law, a seventh that can't be read", Checks.law(p, "stands"), -5);
        due("status()", p.status(), -5);
        due("fault()", p.fault(), -1);
        due("law, a seventh of nothing", p.law(), -5);
        due("count(10)", p.count(10), 3);
        due("count(11)", p.count(11), 12);
        due("count(4)", p.count(4), 6);
        due("count(5)", p.count(5), 1);
        for (int n = 0; n < 6; n++) {
            p.force(n);
            due("cell(0, 3)", p.cell(0, 3), n + 60);
        }
        p.back(0);
        due("law: there is room again", Checks.law(p, "stands 77"), 5);
        p.force(5);
        due("cell(0, 3)", p.cell(0, 3), 77);
        due("law", Checks.law(p, "stands 1"), -5);
    }

    private void p11Orders() {
        MercuryPost p = begin("11");
        due("orders(): empty", p.orders(), -6);
        due("orders(): blanks", Checks.orders(p, "    "), -6);
        due("orders() that run nothing", Checks.orders(p, "pass if 1 > 1"), 0);
        due("status()", p.status(), 0);
        due("orders() of one", Checks.orders(p, "pass"), 1);
        due("orders(), once if told so", Checks.orders(p, "pass times 1"), 1);
        due("orders(), 20 times", Checks.orders(p, "pass times 20"), 20);
        due("count(13)", p.count(13), 22);
        due("count(5)", p.count(5), 16);
        due("orders(): a letter too large", Checks.orders(p, "spill 8 at 0"), -3);
        due("orders(): a letter too small", Checks.orders(p, "spill 0 - 1 at 0"), -3);
        due("orders(): a cell too large", Checks.orders(p, "spill 0 at 25"), -3);
        due("orders(): a cell too small", Checks.orders(p, "spill 0 at 0 - 1"), -3);
        due("orders(): it is so high", Checks.orders(p, "raise 0 to 0"), -3);
        due("orders(): too high", Checks.orders(p, "raise 0 to 10"), -3);
        due("orders(): a cell too large", Checks.orders(p, "raise 25 to 1"), -3);
        due("orders(): no letter ON a cell", Checks.orders(p, "split 0 by 0"), -3);
        due("status()", p.status(), -3);
        due("count(9): once a text, and none by -1", p.count(9), 8);
        due("count(7)", p.count(7), 0);
        due("orders(): 0, 24, 9, 3", Checks.orders(p, "spill 7 at 24; raise 24 to 9; split 7 by 3; split 7 by 2"), 4);
        due("letter(7, 1)", p.letter(7, 1), 18);
        due("orders(): beyond the yard", Checks.orders(p, "split 7 by 1; split 7 by 1"), -3);
        due("letter(7, 1): as it was ahead", p.letter(7, 1), 18);
        due("orders(): done ones go back, too", Checks.orders(p, "raise 3 to 3; pass times 3; spill 7 at 1"), -3);
        due("cell(3, 0)", p.cell(3, 0), 0);
        due("count(13)", p.count(13), 22);
        due("count(5)", p.count(5), 16);
        due("undo(): what was ahead of them", p.undo(), 2);
        due("letter(7, 1)", p.letter(7, 1), 23);
        due("orders(): the first times be, a later one can't", Checks.orders(p, "spill done at 0 times 9"), -3);
        due("count(1)", p.count(1), 7);
        due("orders(): so many can", Checks.orders(p, "spill done at 0 times 7"), 7);
        due("count(1)", p.count(1), 0);
        due("cell(0, 2)", p.cell(0, 2), 127);
        p.terms(0, 990);
        due("orders(): beyond 999", Checks.orders(p, "pass times 10"), -3);
        due("count(13)", p.count(13), 990);
        due("count(5)", p.count(5), 0);
        due("orders(): to 999", Checks.orders(p, "pass times 9"), 9);
        due("count(13)", p.count(13), 999);
        due("count(6)", p.count(6), 0);
    }

    // "if" is asked each time; BROKEN: not run; a BROKEN SUM can't be; beyond 1,000,000,000 either way.
    private void p11OrdersWords() {
        MercuryPost p = begin("11, its words");
        String most = "1000 * 1000 * 1000";
        due("orders: the most", Checks.orders(p, "raise 0 to 1 if " + most + " > 0"), 1);
        due("orders: more", Checks.orders(p, "raise 0 to 2 if " + most + " + 1 > 0"), 0);
        due("orders: the least", Checks.orders(p, "raise 0 to 2 if 0 - " + most + " < 0"), 1);
        due("orders: less", Checks.orders(p, "raise 0 to 3 if 0 - " + most + " - 1 < 0"), 0);
        due("orders: a BROKEN first sum", Checks.orders(p, "spill 1 % 0 at 0"), -3);
        due("orders: a BROKEN second one", Checks.orders(p, "spill 0 at 1 / 0"), -3);
        due("orders: both", Checks.orders(p, "spill 0 / 0 at 1 / 0"), -3);
        due("orders: beyond, though it comes back", Checks.orders(p, "raise 3 + " + most + " - " + most + " to 1"), -3);
        due("orders: latest ahead of any pass", Checks.orders(p, "raise 1 to latest + 2"), 1);
        due("cell(1, 0)", p.cell(1, 0), 1);
        p.door(12, 1);
        p.spill(0, 12);
        p.spill(1, 12);
        due("orders: latest", Checks.orders(p, "pass; raise 2 to latest; pass; raise 3 to latest + 8 - done"), 4);
        due("cell(2, 0)", p.cell(2, 0), 2);
        due("cell(3, 0)", p.cell(3, 0), 5);
        due("orders: latest is of this text alone", Checks.orders(p, "raise 4 to latest + 3"), 1);
        due("cell(4, 0)", p.cell(4, 0), 2);
        due("orders: done is of this text alone", Checks.orders(p, "raise 5 to done + 1"), 1);
        due("cell(5, 0)", p.cell(5, 0), 1);
        due("orders: left, read", Checks.orders(p, "raise 6 to left; raise 7 to read"), 2);
        due("cell(6, 0)", p.cell(6, 0), 6);
        due("cell(7, 0)", p.cell(7, 0), 2);
        p.spill(7, 0);
        due("orders: at 0 (READ), at 7 (ON 0), at 6 (IN)",
                Checks.orders(p, "raise at 0 to 3 if at 0 = 12 and at 7 = 0 and at 6 = 0 - 1"), 1);
        due("cell(12, 0)", p.cell(12, 0), 3);
        due("orders: a cell of one that is IN", Checks.orders(p, "raise at 6 to 3"), -3);
        p.raise(24, 7);
        due("orders: high 24, high 0", Checks.orders(p, "raise 8 to high 24; raise 9 to high 0 + 1"), 2);
        due("cell(8, 0)", p.cell(8, 0), 7);
        due("cell(9, 0)", p.cell(9, 0), 3);
        due("orders: as all is then", Checks.orders(p, "raise 10 to 1; raise 11 to high 10 + 1; pass; raise 13 to hour"), 4);
        due("cell(11, 0)", p.cell(11, 0), 2);
        due("cell(13, 0)", p.cell(13, 0), 3);
        due("orders: asked each time", Checks.orders(p, "raise 14 to high 14 + 1 times 20 if high 14 < 9"), 9);
        due("cell(14, 0)", p.cell(14, 0), 9);
        due("orders: asked again behind one that was not so", Checks.orders(p, "pass times 3; pass times 2 if done = 3"), 4);
    }

    private void p12Fault() {
        MercuryPost p = begin("12");
        due("fault(): ahead of any", p.fault(), -1);
        p.law();
        due("fault(): an empty text ends at 0", p.fault(), 0);
        Checks.law(p, "holds");
        due("fault(): none", p.fault(), -1);
        p.orders();
        due("fault(): an empty text ends at 0", p.fault(), 0);
        Checks.orders(p, "pass");
        due("fault(): none", p.fault(), -1);
        Checks.law(p, "pass");
        due("fault(): the first token", p.fault(), 0);
        Checks.orders(p, "spill 0 at 0; spill 0 at 0");
        due("fault(): none, though it can't be", p.fault(), -1);
        StringBuilder blanks = new StringBuilder();
        for (int n = 0; n < 400; n++) {
            blanks.append(' ');
        }
        Checks.law(p, blanks.toString());
        due("fault(): the end of a full tape", p.fault(), 400);
        blanks.setCharAt(399, 'q');
        Checks.orders(p, blanks.toString());
        due("fault(): the last byte of a full tape", p.fault(), 399);
        Checks.row(p, 0, 0, 0);
        due("fault(): row() leaves it", p.fault(), 399);
        p.image(0);
        p.back(0);
        due("fault(): back() leaves it", p.fault(), 399);
        for (int n = 0; n < 6; n++) {
            Checks.law(p, "holds");
        }
        Checks.law(p, "1");
        due("fault(): -5 reads nothing", p.fault(), -1);
        Checks.orders(p, "pass 1");
        Checks.law(p, "holds");
        due("fault(): -5 reads nothing", p.fault(), 5);
    }

    private void p13Stopped() {
        MercuryPost p = begin("13");
        due("stopped(): ahead of any", p.stopped(), -1);
        p.orders();
        due("stopped(): REFUSED by -6", p.stopped(), -1);
        Checks.orders(p, "split 0 by 0");
        due("stopped(): the first", p.stopped(), 0);
        Checks.orders(p, "pass");
        due("stopped(): that was done", p.stopped(), -1);
        String eleven = "pass;pass;pass;pass;pass;pass;pass;pass;pass;pass;pass;";
        Checks.orders(p, eleven + "split 0 by 0");
        due("stopped(): the twelfth", p.stopped(), 11);
        due("count(13)", p.count(13), 1);
        Checks.law(p, "stands");
        p.row();
        p.spill(9, 9);
        due("stopped(): others leave it", p.stopped(), 11);
        Checks.orders(p, eleven + "pass; split 0 by 0");
        due("stopped(): REFUSED by -6", p.stopped(), -1);
        Checks.orders(p, "pass times 5; split 0 by 0 if 1 = 2; raise 0 to 1 times 2");
        due("stopped(): the CLAUSE, however often it was run", p.stopped(), 2);
        due("count(13)", p.count(13), 1);
    }

    private void p14Force() {
        MercuryPost p = begin("14");
        for (int law : new int[] {0, 1, -2, FAR, LOW}) {
            due("force(" + law + "): there is none", p.force(law), -2);
            due("status()", p.status(), -2);
        }
        due("count(8)", p.count(8), 5);
        due("count(7): none by -1", p.count(7), 0);
        for (int n = 0; n < 6; n++) {
            Checks.law(p, "stands " + n);
            due("force(" + n + ")", p.force(n), n - 1);
            due("force(" + (n + 1) + ")", p.force(n + 1), -2);
            due("count(12)", p.count(12), n);
        }
        due("force(5): it is", p.force(5), 5);
        due("force(NONE)", p.force(-1), 5);
        due("status()", p.status(), 0);
        due("force(NONE): none is", p.force(-1), -1);
        due("status()", p.status(), 0);
    }

    private void p15Spill() {
        MercuryPost p = begin("15");
        for (int letter = 0; letter < 8; letter++) {
            due("spill(" + letter + ", 24)", p.spill(letter, 24), letter + 1);
        }
        due("count(1)", p.count(1), 0);
        for (int letter = 0; letter < 8; letter++) {
            due("spill(" + letter + ", 0): it is not IN", p.spill(letter, 0), -3);
        }
        for (int cell : NO_CELLS) {
            due("spill(0, " + cell + "): the number ahead", p.spill(0, cell), -1);
        }
        for (int letter : NO_LETTERS) {
            due("spill(" + letter + ", 0)", p.spill(letter, 0), -1);
        }
        MercuryPost q = begin("15, at 0");
        q.door(0, 1);
        due("spill(7, 0)", q.spill(7, 0), 1);
        due("spill(0, 0)", q.spill(0, 0), 2);
        q.pass();
        due("spill(7, 0): READ", q.spill(7, 0), -3);
        due("spill(1, 0): none is ON it any more", q.spill(1, 0), 1);
    }

    private void p16Raise() {
        MercuryPost p = begin("16");
        for (int cell = 0; cell < 25; cell++) {
            due("raise(" + cell + ", 0): it is so", p.raise(cell, 0), -3);
            due("raise(" + cell + ", 9)", p.raise(cell, 9), 0);
            due("raise(" + cell + ", 9): it is so", p.raise(cell, 9), -3);
            due("raise(" + cell + ", 1): lower", p.raise(cell, 1), 9);
        }
        for (int high : new int[] {-1, 10, FAR, LOW}) {
            due("raise(24, " + high + ")", p.raise(24, high), -1);
        }
        for (int cell : NO_CELLS) {
            due("raise(" + cell + ", 1)", p.raise(cell, 1), -1);
        }
        due("cell(24, 0)", p.cell(24, 0), 1);
        due("count(9)", p.count(9), 50);
        due("count(7)", p.count(7), 8);
    }

    // WAYS 0 up (y one more), 1 right (x one more), 2 down, 3 left; within the YARD.
    private void p17Split() {
        int[] dx = {0, 1, 0, -1};
        int[] dy = {1, 0, -1, 0};
        for (int way = 0; way < 4; way++) {
            for (int cell = 0; cell < 25; cell++) {
                MercuryPost p = begin("17, from " + cell);
                p.spill(5, cell);
                int x = cell % 5 + dx[way];
                int y = cell / 5 + dy[way];
                boolean within = x >= 0 && x < 5 && y >= 0 && y < 5;
                due("split(5, " + way + ")", p.split(5, way), within ? y * 5 + x : -3);
                due("status()", p.status(), within ? 0 : -3);
                due("letter(5, 1)", p.letter(5, 1), within ? y * 5 + x : cell);
                due("count(5)", p.count(5), within ? 2 : 1);
            }
        }
        MercuryPost p = begin("17");
        due("split(0, 0): IN", p.split(0, 0), -3);
        for (int way : new int[] {-1, 4, FAR, LOW}) {
            due("split(0, " + way + "): the number ahead", p.split(0, way), -1);
        }
        for (int letter : NO_LETTERS) {
            due("split(" + letter + ", 0)", p.split(letter, 0), -1);
        }
        p.door(12, 1);
        p.spill(0, 12);
        p.spill(7, 12);
        due("split(0, 0): from others, ON a door", p.split(0, 0), 17);
        due("cell(12, 2)", p.cell(12, 2), 128);
        p.pass();
        due("split(7, 0): READ", p.split(7, 0), -3);
        p.raise(16, 9);
        due("split(0, 3): to a higher one", p.split(0, 3), 16);
    }

    private void p18Pass() {
        MercuryPost p = begin("18");
        due("pass(): none is ON a cell", p.pass(), 0);
        p.door(12, 1);
        for (int letter = 0; letter < 8; letter++) {
            p.spill(letter, 12);
        }
        due("pass(): all", p.pass(), 8);
        due("pass(): none any more", p.pass(), 0);
        due("count(2)", p.count(2), 8);
        MercuryPost q = begin("18, at 999");
        q.door(12, 1);
        q.terms(0, 998);
        q.spill(0, 12);
        due("pass(): to 999", q.pass(), 1);
        q.spill(1, 12);
        q.spill(2, 11);
        q.raise(11, 1);
        due("pass(): it can't be", q.pass(), -3);
        due("status()", q.status(), -3);
        due("letter(1, 0): not READ", q.letter(1, 0), 1);
        due("letter(2, 1): does not run", q.letter(2, 1), 11);
        due("count(13)", q.count(13), 999);
        due("count(5): nothing new", q.count(5), 5);
        due("undo()", q.undo(), 1);
        MercuryPost r = yard("18, the first of alike ones", 9, 9, 9, 9, 9, 9, 9, 4, 9, 9, 9, 4, 5, 4, 9, 9, 9, 4, 9, 9,
                9, 9, 9, 9, 9);
        int[] goes = {17, 13, 7, 11};
        for (int way = 0; way < 4; way++) {
            r.spill(way, 12);
            r.pass();
            due("letter(" + way + ", 1)", r.letter(way, 1), goes[way]);
            r.raise(goes[way], 5);
        }
        r.spill(4, 12);
        r.pass();
        due("letter(4, 1): none is lower", r.letter(4, 1), 12);
    }

    // 16 are kept.
    private void p19Undo() {
        MercuryPost p = begin("19");
        due("undo(): there is none", p.undo(), -3);
        for (int n = 1; n <= 17; n++) {
            due("pass()", p.pass(), 0);
            due("count(5)", p.count(5), Math.min(n, 16));
        }
        for (int n = 1; n <= 16; n++) {
            due("undo()", p.undo(), 3);
            due("count(5)", p.count(5), 16 - n);
            due("count(13)", p.count(13), 17 - n);
        }
        due("undo(): the first of 17 is no longer kept", p.undo(), -3);
        due("status()", p.status(), -3);
        due("count(13)", p.count(13), 1);
        due("count(9)", p.count(9), 2);
        for (int n = 0; n < 14; n++) {
            p.raise(n, 5);
        }
        for (int n = 0; n < 5; n++) {
            due("undo()", p.undo(), 1);
        }
        for (int n = 0; n < 8; n++) {
            p.spill(n, 20);
        }
        due("count(5): 9 and 8, but 16 are kept", p.count(5), 16);
        for (int n = 7; n >= 0; n--) {
            due("undo()", p.undo(), 0);
            due("letter(" + n + ", 0)", p.letter(n, 0), 0);
        }
        for (int n = 8; n > 0; n--) {
            due("undo()", p.undo(), 1);
            due("cell(" + n + ", 0)", p.cell(n, 0), 0);
        }
        due("undo()", p.undo(), -3);
        due("cell(0, 0): no longer kept", p.cell(0, 0), 5);
        MercuryPost q = walls("19, each", 11, 3, 12, 1);
        q.door(12, 1);
        due("orders", Checks.orders(q, "spill 0 at 12; spill 1 at 11; raise 11 to 2; split 1 by 0; split 1 by 2; pass"), 6);
        due("letter(1, 1)", q.letter(1, 1), 12);
        q.pass();
        due("letter(1, 2)", q.letter(1, 2), 1);
        due("undo()", q.undo(), 3);
        due("letter(1, 0)", q.letter(1, 0), 1);
        due("letter(1, 2)", q.letter(1, 2), -1);
        due("letter(0, 2)", q.letter(0, 2), 0);
        due("undo()", q.undo(), 3);
        due("letter(0, 0)", q.letter(0, 0), 1);
        due("letter(1, 1)", q.letter(1, 1), 11);
        due("count(13)", q.count(13), 0);
        due("undo()", q.undo(), 2);
        due("letter(1, 1)", q.letter(1, 1), 16);
        due("undo()", q.undo(), 2);
        due("undo()", q.undo(), 1);
        due("cell(11, 0)", q.cell(11, 0), 3);
        due("undo()", q.undo(), 0);
        due("letter(1, 1)", q.letter(1, 1), -1);
        due("undo()", q.undo(), 0);
        due("undo()", q.undo(), -3);
        due("cell(12, 1): doors are not undone", q.cell(12, 1), 1);
    }

    // Nothing that was ahead of a terms(), row(), back() that was not REFUSED can be undone; all others leave it.
    private void p19UndoIsCleared() {
        MercuryPost p = begin("19, cleared");
        p.image(0);
        p.raise(0, 1);
        p.terms(0, 1000);
        p.terms(1, 11);
        p.row();
        p.back(1);
        p.back(2);
        p.back(-1);
        p.door(1, 1);
        p.door(25, 1);
        Checks.law(p, "holds if x > 4");
        p.law();
        p.force(0);
        p.force(9);
        p.seen(1, 1);
        p.forget();
        p.image(1);
        p.image(2);
        p.days(1, 1);
        p.orders();
        Checks.orders(p, "pass; split 0 by 0");
        p.later(0, 60);
        p.end(0);
        due("count(5): all these leave it", p.count(5), 1);
        due("undo()", p.undo(), 1);
        due("cell(0, 0)", p.cell(0, 0), 0);
        for (int kind = 0; kind < 5; kind++) {
            p.raise(5, kind + 1);
            int got = kind < 3 ? p.terms(kind, p.count(13 + kind)) : kind == 3 ? Checks.row(p, 255) : p.back(0);
            due("status()", p.status(), 0);
            due("count(5) behind " + kind, p.count(5), 0);
            due("undo() behind " + kind + ", that answered " + got, p.undo(), -3);
            p.raise(6, 8 - kind);
            due("count(5): what is behind it", p.count(5), 1);
            due("undo()", p.undo(), 1);
        }
    }

    // LATER, n 0 .. 60.
    private void p20Later() {
        MercuryPost p = walls("20", 0, 4, 1, 3, 2, 2);
        p.door(2, 1);
        p.spill(0, 0);
        p.spill(7, 24);
        due("later(0, 0)", p.later(0, 0), 0);
        due("later(0, 1)", p.later(0, 1), 1);
        due("later(0, 2): ON the door", p.later(0, 2), 2);
        due("later(0, 3): READ there", p.later(0, 3), 2);
        due("later(0, 60)", p.later(0, 60), 2);
        due("later(7, 60)", p.later(7, 60), 24);
        for (int n : new int[] {-1, 61, FAR, LOW}) {
            due("later(0, " + n + ")", p.later(0, n), -1);
        }
        for (int letter : NO_LETTERS) {
            due("later(" + letter + ", 0)", p.later(letter, 0), -1);
        }
        due("later(1, 0): IN", p.later(1, 0), -1);
        due("later(1, 60): IN", p.later(1, 60), -1);
        p.terms(0, 999);
        due("later(0, 2) at 999", p.later(0, 2), 2);
        due("count(13)", p.count(13), 999);
        p.terms(0, 0);
        p.pass();
        p.pass();
        p.pass();
        due("letter(0, 0)", p.letter(0, 0), 2);
        due("later(0, 0): READ", p.later(0, 0), 2);
        due("later(0, 60): READ", p.later(0, 60), 2);
        MercuryPost q = walls("20, the hour of the 60th", 0, 2, 1, 1);
        law(q, "holds if hour < 59");
        q.spill(0, 0);
        due("later(0, 59): held", q.later(0, 59), 0);
        due("later(0, 60)", q.later(0, 60), 1);
        q.terms(0, 1);
        due("later(0, 58): held", q.later(0, 58), 0);
        due("later(0, 59)", q.later(0, 59), 1);
        MercuryPost r = walls("20, hours beyond 999", 0, 2, 1, 1);
        law(r, "holds if hour < 1000 + 58");
        r.spill(0, 0);
        r.terms(0, 999);
        due("later(0, 59): held at 1057", r.later(0, 59), 0);
        due("later(0, 60)", r.later(0, 60), 1);
    }

    // Already or within 60 HOURS on.
    private void p21ReadWith() {
        MercuryPost p = begin("21");
        p.door(12, 1);
        for (int letter = 0; letter < 8; letter++) {
            p.spill(letter, 12);
        }
        for (int letter = 0; letter < 8; letter++) {
            due("readWith(" + letter + "): all", p.readWith(letter), 255);
        }
        p.pass();
        due("readWith(7): already", p.readWith(7), 255);
        for (int letter : NO_LETTERS) {
            due("readWith(" + letter + ")", p.readWith(letter), -1);
        }
        MercuryPost q = begin("21, apart");
        q.door(12, 1);
        q.door(13, 1);
        q.spill(0, 12);
        q.spill(1, 13);
        q.spill(2, 13);
        q.spill(3, 0);
        due("readWith(0): at one CELL", q.readWith(0), 1);
        due("readWith(2)", q.readWith(2), 6);
        due("readWith(3): it is never READ", q.readWith(3), -1);
        due("readWith(4): IN", q.readWith(4), -1);
        q.pass();
        q.spill(5, 12);
        due("readWith(0): in one HOUR", q.readWith(0), 1);
        due("readWith(5)", q.readWith(5), 32);
        for (int hour = 58; hour <= 60; hour++) {
            MercuryPost r = walls("21, runs on at " + hour, 0, 2, 1, 1);
            r.door(1, 1);
            law(r, "holds if hour < " + hour);
            r.spill(0, 0);
            r.spill(1, 0);
            due("readWith(0): READ in the 60th hour at last", r.readWith(0), hour == 58 ? 3 : -1);
        }
        MercuryPost s = walls("21, beyond 999", 0, 2, 1, 1);
        s.door(1, 1);
        s.spill(0, 0);
        s.spill(1, 1);
        s.terms(0, 999);
        due("readWith(0)", s.readWith(0), 1);
        due("readWith(1)", s.readWith(1), 2);
    }

    /** The longest way that no drop can make shorter: 17 cells, walls between; 40 down to 24. */
    private MercuryPost snake(String what) {
        MercuryPost p = begin(what);
        law(p, "stands 99; stands 40 - x if y = 0; stands 35 if y = 1 and x = 4; stands 30 + x if y = 2;"
                + "stands 29 if y = 3 and x = 0; stands 28 - x if y = 4");
        return p;
    }

    private static final int[] SNAKE = {0, 1, 2, 3, 4, 9, 14, 13, 12, 11, 10, 15, 20, 21, 22, 23, 24};

    private void p22Run() {
        MercuryPost p = snake("22");
        due("run(0, NONE)", p.run(0, -1), 16);
        for (int i = 0; i < 17; i++) {
            due("run(0, " + i + ")", p.run(0, i), SNAKE[i]);
            due("run(" + SNAKE[i] + ", NONE)", p.run(SNAKE[i], -1), 16 - i);
        }
        for (int i : new int[] {17, 24, 25, 26, 1000, FAR}) {
            due("run(0, " + i + "): where it ENDED", p.run(0, i), 24);
        }
        for (int i : new int[] {-2, -3, LOW}) {
            due("run(0, " + i + ")", p.run(0, i), -1);
        }
        for (int cell : NO_CELLS) {
            due("run(" + cell + ", NONE)", p.run(cell, -1), -1);
            due("run(" + cell + ", 0)", p.run(cell, 0), -1);
        }
        p.door(12, 1);
        due("run(0, NONE): to a door", p.run(0, -1), 8);
        due("run(0, 9)", p.run(0, 9), 12);
        due("run(12, NONE): that cell alone", p.run(12, -1), 0);
        due("run(12, 0)", p.run(12, 0), 12);
        due("run(12, 1)", p.run(12, 1), 12);
        due("run(11, NONE)", p.run(11, -1), 7);
    }

    private void p23Basin() {
        MercuryPost p = begin("23");
        for (int cell = 0; cell < 25; cell++) {
            due("basin(" + cell + "): its own alone", p.basin(cell), 1 << cell);
        }
        for (int cell : NO_CELLS) {
            due("basin(" + cell + ")", p.basin(cell), -1);
        }
        law(p, "stands [x - 2] * [x - 2] + [y - 2] * [y - 2]");
        due("basin(12): all", p.basin(12), ALL);
        due("basin(0): none", p.basin(0), 0);
        due("basin(24): none", p.basin(24), 0);
        p.door(0, 1);
        due("basin(0): a door, that cell alone", p.basin(0), 1);
        due("basin(12)", p.basin(12), ALL - 1);
        law(p, "stands x + y");
        p.door(0, 0);
        due("basin(0): all", p.basin(0), ALL);
        law(p, "stands 8 - x - y");
        due("basin(24): all", p.basin(24), ALL);
    }

    private void p24Meeting() {
        MercuryPost p = snake("24");
        due("meeting(0, 24): the end of one, the start of the other", p.meeting(0, 24), 24);
        due("meeting(24, 0)", p.meeting(24, 0), 24);
        due("meeting(0, 0): its own", p.meeting(0, 0), 0);
        due("meeting(24, 24)", p.meeting(24, 24), 24);
        due("meeting(0, 1)", p.meeting(0, 1), 1);
        due("meeting(1, 0): its own", p.meeting(1, 0), 1);
        due("meeting(5, 0): whenever", p.meeting(5, 0), 10);
        for (int cell : NO_CELLS) {
            due("meeting(" + cell + ", 0)", p.meeting(cell, 0), -1);
            due("meeting(0, " + cell + ")", p.meeting(0, cell), -1);
            due("meeting(" + cell + ", " + cell + ")", p.meeting(cell, cell), -1);
        }
        p.door(14, 1);
        due("meeting(0, 24): they do not", p.meeting(0, 24), -1);
        due("meeting(0, 14): at the door", p.meeting(0, 14), 14);
        due("meeting(14, 0)", p.meeting(14, 0), 14);
        due("meeting(14, 13)", p.meeting(14, 13), -1);
    }

    // The least d 0 .. 30; ON a door it is READ an HOUR later and gone then; elsewhere it is never gone.
    private void p25Delay() {
        MercuryPost p = snake("25");
        due("delay(0, 0): where both stay", p.delay(0, 0), -1);
        due("delay(0, 24)", p.delay(0, 24), -1);
        due("delay(24, 24)", p.delay(24, 24), -1);
        p.door(24, 1);
        due("delay(0, 0)", p.delay(0, 0), 1);
        due("delay(0, 24): 24 is gone 15 hours ahead", p.delay(0, 24), 0);
        due("delay(24, 0)", p.delay(24, 0), 0);
        due("delay(24, 24)", p.delay(24, 24), 1);
        due("delay(0, 1): an hour ahead of it", p.delay(0, 1), 0);
        due("delay(1, 0)", p.delay(1, 0), 0);
        for (int cell : NO_CELLS) {
            due("delay(" + cell + ", 0)", p.delay(cell, 0), -1);
            due("delay(0, " + cell + ")", p.delay(0, cell), -1);
        }
        MercuryPost q = walls("25, on the door", 0, 3, 1, 2, 2, 1);
        q.door(2, 1);
        q.raise(3, 2);
        due("delay(1, 3): both on the door in one hour alone", q.delay(1, 3), 1);
        due("delay(0, 3): 3 is gone then", q.delay(0, 3), 0);
        due("delay(2, 2)", q.delay(2, 2), 1);
        due("delay(0, 24): never beside", q.delay(0, 24), 0);
        q.door(2, 0);
        due("delay(0, 3): it stays", q.delay(0, 3), -1);
        due("delay(24, 3)", q.delay(24, 3), 0);
    }

    // A set of 8 CELLS at most, as bits 0 .. 33,554,431.
    private void p26Apart() {
        MercuryPost p = begin("26");
        due("apart(0, NONE): no CELLS", p.apart(0, -1), 0);
        due("apart(0, 0): no k-th one", p.apart(0, 0), -1);
        due("apart(1, NONE)", p.apart(1, -1), 1);
        due("apart(1, 0)", p.apart(1, 0), 0);
        due("apart(1, 1)", p.apart(1, 1), -1);
        int eight = 0xFF << 17;
        due("apart of the last 8, NONE", p.apart(eight, -1), 1);
        due("apart of the last 8, 7", p.apart(eight, 7), 0);
        due("apart of the last 8, 8", p.apart(eight, 8), -1);
        due("apart of the last 9, NONE", p.apart(0x1FF << 16, -1), -1);
        due("apart of the last 9, 0", p.apart(0x1FF << 16, 0), -1);
        due("apart of all", p.apart(ALL, -1), -1);
        for (int cells : new int[] {-1, LOW, ALL + 1, FAR, ALL + 2}) {
            due("apart(" + cells + ", NONE)", p.apart(cells, -1), -1);
            due("apart(" + cells + ", 0)", p.apart(cells, 0), -1);
        }
        for (int k : new int[] {-2, LOW, 1, FAR}) {
            due("apart(1, " + k + ")", p.apart(1, k), -1);
        }
        law(p, "stands [x - 2] * [x - 2] + [y - 2] * [y - 2]");
        int ring = 1 << 6 | 1 << 7 | 1 << 8 | 1 << 11 | 1 << 13 | 1 << 16 | 1 << 17 | 1 << 18;
        due("apart of 8 that all clash", p.apart(ring, -1), 8);
        due("apart, the last of them", p.apart(ring, 7), 7);
        p.door(12, 1);
        due("apart at a door: 4 come behind one hour, 4 behind two", p.apart(ring, -1), 4);
        int[] kinds = {0, 0, 1, 1, 2, 2, 3, 3};
        for (int k = 0; k < 8; k++) {
            due("apart, kind of the one " + k, p.apart(ring, k), kinds[k]);
        }
    }

    // The fewest CELLS, two at most, the start and the DOOR not among them.
    private void p27Kerbs() {
        MercuryPost p = walls("27", 12, 8, 17, 1, 13, 2, 7, 3, 11, 4);
        for (int cell : new int[] {17, 13, 7, 11}) {
            p.door(cell, 1);
        }
        due("kerbs(12, 17, 0): none", p.kerbs(12, 17, 0), 0);
        due("kerbs(12, 17, 1)", p.kerbs(12, 17, 1), 0);
        due("kerbs(12, 13, 0): one", p.kerbs(12, 13, 0), 1);
        due("kerbs(12, 13, 1)", p.kerbs(12, 13, 1), 1 << 17);
        due("kerbs(12, 7, 0): two", p.kerbs(12, 7, 0), 2);
        due("kerbs(12, 7, 1)", p.kerbs(12, 7, 1), 1 << 17 | 1 << 13);
        due("kerbs(12, 11, 0): not by two", p.kerbs(12, 11, 0), -1);
        due("kerbs(12, 11, 1)", p.kerbs(12, 11, 1), -1);
        due("kerbs(17, 17, 0): from the door itself", p.kerbs(17, 17, 0), 0);
        due("kerbs(17, 13, 0): from another door", p.kerbs(17, 13, 0), -1);
        due("kerbs(12, 12, 0): no door there", p.kerbs(12, 12, 0), -1);
        for (int cell : NO_CELLS) {
            due("kerbs(" + cell + ", 17, 0)", p.kerbs(cell, 17, 0), -1);
            due("kerbs(12, " + cell + ", 0)", p.kerbs(12, cell, 0), -1);
        }
        for (int what : new int[] {-1, 2, FAR, LOW}) {
            due("kerbs(12, 17, " + what + ")", p.kerbs(12, 17, what), -1);
        }
        due("cell(17, 0): on paper", p.cell(17, 0), 1);
        due("count(5)", p.count(5), 0);
        MercuryPost q = walls("27, at the last cells", 18, 5, 17, 4, 19, 2, 23, 1, 24, 0);
        q.door(17, 1);
        q.door(24, 1);
        due("kerbs(18, 24, 0)", q.kerbs(18, 24, 0), 0);
        due("kerbs(18, 17, 0)", q.kerbs(18, 17, 0), 2);
        due("kerbs(18, 17, 1)", q.kerbs(18, 17, 1), 1 << 23 | 1 << 19);
        due("kerbs(18, 17, 1), once more", q.kerbs(18, 17, 1), 1 << 23 | 1 << 19);
        q.raise(19, 9);
        due("kerbs(18, 17, 1): those that are 9 HIGH do not count", q.kerbs(18, 17, 1), 1 << 23);
    }

    /** By a law a raised cell may stand lower; the start and the door are not raised even if that would do. */
    private void p27KerbsByLaws() {
        MercuryPost p = begin("27, with a law");
        p.raise(0, 5);
        p.door(1, 1);
        p.raise(1, 4);
        p.raise(5, 8);
        law(p, "stands 9 - high; stands 50 if x > 1 or y > 1 or x + y = 2");
        due("run(0, 1): 8 high stands 1, lower than 4 high", p.run(0, 1), 5);
        due("kerbs(0, 1, 0): the door itself, 9 high, would do", p.kerbs(0, 1, 0), -1);
        MercuryPost q = begin("27, the start");
        q.raise(1, 1);
        q.door(1, 1);
        law(q, "stands 0 - 0; stands 8 if x = 0 and y = 0 and high = 9; stands 5 if x = 1 and y = 0; stands 60 if y > 0");
        due("run(0, NONE)", q.run(0, -1), 0);
        due("kerbs(0, 1, 0): the start, 9 high, would do", q.kerbs(0, 1, 0), -1);
        MercuryPost r = begin("27, lower by a kerb");
        r.door(2, 1);
        law(r, "stands 50; stands 40 if x = 0 and y = 0; stands 45 - high if x = 1 and y = 0; stands 20 if x = 2 and y = 0");
        due("run(0, NONE)", r.run(0, -1), 0);
        due("kerbs(0, 2, 0): 1 stands 36, if it is 9 high", r.kerbs(0, 2, 0), 1);
        due("kerbs(0, 2, 1)", r.kerbs(0, 2, 1), 2);
        r.raise(1, 9);
        due("kerbs(0, 2, 0): it is", r.kerbs(0, 2, 0), 0);
        r.raise(1, 8);
        due("kerbs(0, 2, 0): 37", r.kerbs(0, 2, 0), 0);
        MercuryPost s = begin("27, as all is now");
        s.door(2, 1);
        s.spill(0, 1);
        law(s, "stands 50; stands 40 if x = 0 and y = 0; stands 45 - high * many - hour if x = 1 and y = 0;"
                + "stands 20 if x = 2 and y = 0");
        due("kerbs(0, 2, 1): many as now", s.kerbs(0, 2, 1), 2);
        s.split(0, 0);
        due("kerbs(0, 2, 1): none is ON it now", s.kerbs(0, 2, 1), -1);
        s.terms(0, 6);
        due("kerbs(0, 2, 1): hour as now", s.kerbs(0, 2, 1), 0);
    }

    private void p28SpringsPools() {
        MercuryPost p = snake("28, 29");
        due("springs(): walls, and the start", p.springs(), 1 | 1 << 5 | 1 << 6 | 1 << 7 | 1 << 8
                | 1 << 16 | 1 << 17 | 1 << 18 | 1 << 19);
        due("pools()", p.pools(), 1 << 24);
        p.door(24, 1);
        due("pools(): none", p.pools(), 0);
        due("springs(): a door is run to", p.springs() >> 24, 0);
        p.door(10, 1);
        due("springs(): a door runs nowhere, but 16 does not run to 15", p.springs() >> 15 & 1, 1);
        for (int cell = 0; cell < 25; cell++) {
            p.door(cell, 1);
        }
        due("springs(): all are doors", p.springs(), ALL);
        due("pools(): all are doors", p.pools(), 0);
        for (int cell = 0; cell < 25; cell++) {
            p.door(cell, 0);
        }
        law(p, "holds; stands x");
        due("springs(): all are held", p.springs(), ALL);
        due("pools(): all are held", p.pools(), ALL);
    }

    private void p30Longest() {
        MercuryPost p = snake("30");
        due("longest(0)", p.longest(0), 16);
        due("longest(1)", p.longest(1), 0);
        for (int what : new int[] {-1, 2, FAR, LOW}) {
            due("longest(" + what + ")", p.longest(what), -1);
        }
        law(p, "stands 99; stands 40 - x if y = 4; stands 35 if y = 3 and x = 4; stands 30 + x if y = 2;"
                + "stands 29 if y = 1 and x = 0; stands 28 - x if y = 0");
        due("longest(0)", p.longest(0), 16);
        due("longest(1)", p.longest(1), 20);
        law(p, "stands x + y");
        due("longest(0)", p.longest(0), 8);
        due("longest(1): the last cell", p.longest(1), 24);
        law(p, "stands y");
        due("longest(0)", p.longest(0), 4);
        due("longest(1): the lowest of five", p.longest(1), 20);
        p.force(-1);
        due("longest(0): none runs", p.longest(0), 0);
        due("longest(1): the lowest of all", p.longest(1), 0);
    }

    // SEEN, 6 at most; HOURS 0 .. 30 on.
    private void p31Seen() {
        MercuryPost p = begin("31, 32");
        due("forget(): nothing", p.forget(), 0);
        for (int round = 0; round < 2; round++) {
            for (int n = 1; n <= 6; n++) {
                due("seen(30, 24)", p.seen(n % 2 * 30, n % 2 * 24), n);
                due("count(3)", p.count(3), n);
            }
            due("seen(0, 0): no room", p.seen(0, 0), -5);
            due("status()", p.status(), -5);
            due("count(3)", p.count(3), 6);
            for (int cell : NO_CELLS) {
                due("seen(0, " + cell + "): the number ahead", p.seen(0, cell), -1);
            }
            for (int n : new int[] {-1, 31, FAR, LOW}) {
                due("seen(" + n + ", 0): the number ahead", p.seen(n, 0), -1);
            }
            due("status()", p.status(), -1);
            due("forget(): full", p.forget(), 6);
            due("status(): forget() is not told", p.status(), -1);
            due("count(3)", p.count(3), 0);
        }
        due("count(10)", p.count(10), 2);
        due("count(7)", p.count(7), 16);
        p.raise(0, 1);
        p.seen(0, 0);
        due("count(5): seen() leaves it", p.count(5), 1);
    }

    private void p33CanBe() {
        MercuryPost p = walls("33", 0, 4, 1, 3, 2, 2);
        p.door(2, 1);
        due("canBe(): all are IN", p.canBe(), 0);
        for (int letter = 0; letter < 7; letter++) {
            p.spill(letter, letter < 4 ? 0 : 24);
        }
        due("canBe(): nothing was SEEN", p.canBe(), 127);
        p.spill(7, 1);
        due("canBe(): all", p.canBe(), 255);
        p.seen(0, 0);
        due("canBe(): 0 hours on", p.canBe(), 15);
        p.seen(1, 1);
        p.seen(2, 2);
        p.seen(3, 2);
        p.seen(29, 2);
        p.seen(30, 2);
        due("canBe(): at all that was SEEN", p.canBe(), 15);
        p.forget();
        p.seen(30, 2);
        due("canBe(): READ, at that CELL ever after", p.canBe(), 143);
        p.seen(2, 2);
        p.seen(1, 2);
        due("canBe()", p.canBe(), 128);
        p.seen(0, 2);
        due("canBe(): none", p.canBe(), 0);
        p.pass();
        due("canBe(): so many hours on from when it is asked", p.canBe(), 128);
        p.pass();
        p.pass();
        due("letter(7, 0)", p.letter(7, 0), 2);
        due("canBe(): READ", p.canBe(), 143);
        p.forget();
        p.seen(30, 24);
        due("canBe(): ON", p.canBe(), 112);
        p.terms(0, 999);
        due("canBe(): beyond 999", p.canBe(), 112);
    }

    // The least n 0 .. 30.
    private void p34Look() {
        MercuryPost p = begin("34");
        due("look(0): all are IN", p.look(0), -1);
        p.door(12, 1);
        p.spill(0, 12);
        due("look(0): one alone", p.look(0), 0);
        due("look(1)", p.look(1), 1);
        for (int what : new int[] {-1, 2, FAR, LOW}) {
            due("look(" + what + ")", p.look(what), -1);
        }
        for (int letter = 1; letter < 8; letter++) {
            p.spill(letter, 12);
        }
        due("look(0): all on one", p.look(0), 0);
        due("look(1): 8", p.look(1), 8);
        p.pass();
        due("look(0): all READ at one", p.look(0), 0);
        due("look(1): 8", p.look(1), 8);
        p.seen(3, 11);
        due("look(0): it can be none", p.look(0), -1);
        due("look(1)", p.look(1), -1);
        for (int hour = 28; hour < 32; hour++) {
            MercuryPost q = begin("34, parted at " + hour);
            q.door(0, 1);
            q.spill(0, 0);
            q.pass();
            q.door(0, 0);
            q.raise(0, 1);
            q.spill(1, 0);
            q.terms(0, 0);
            law(q, "holds if hour < " + hour);
            due("look(0)", q.look(0), hour < 30 ? hour + 1 : 0);
            due("look(1)", q.look(1), hour < 30 ? 1 : 2);
        }
    }

    // k 1 .. 20, n 0 .. 99.
    private void p35Few() {
        MercuryPost p = begin("35");
        long all = 1000000000000L;
        for (int k : new int[] {1, 2, 19, 20}) {
            due("few(" + k + ", 0)", p.few(k, 0), all);
        }
        for (int k : new int[] {0, -1, 21, FAR, LOW}) {
            due("few(" + k + ", 5)", p.few(k, 5), -1);
        }
        for (int n : new int[] {-1, 100, FAR, LOW}) {
            due("few(1, " + n + ")", p.few(1, n), -1);
        }
        due("few(1, 1)", p.few(1, 1), 900000000000L);
        due("few(2, 1)", p.few(2, 1), all);
        due("few(20, 1)", p.few(20, 1), all);
        long left = all;
        for (int n = 0; n < 99; n++) {
            left = left * 9 / 10;
        }
        due("few(1, 99): cut 99 times", p.few(1, 99), left);
        p.terms(1, 0);
        due("few(1, 99): none stops", p.few(1, 99), all);
        due("few(20, 99)", p.few(20, 99), all);
        p.terms(1, 10);
        for (int k : new int[] {1, 2, 20}) {
            due("few(" + k + ", k - 1): all stop", p.few(k, k - 1), all);
            due("few(" + k + ", k)", p.few(k, k), 0);
        }
        due("few(20, 99)", p.few(20, 99), 0);
        p.terms(1, 5);
        due("few(1, 12)", p.few(1, 12), all / 4096);
        due("few(1, 40): the last part of a part", p.few(1, 39), 1);
        due("few(1, 40)", p.few(1, 40), 0);
        due("few(1, 99)", p.few(1, 99), 0);
        due("status()", p.status(), 0);
    }

    private void p36Compare() {
        MercuryPost p = walls("36", 12, 5, 13, 4);
        due("compare(NONE, 12)", p.compare(-1, 12), 13);
        due("compare(NONE, 13): it stays", p.compare(-1, 13), 13);
        for (int law : new int[] {-2, 0, 1, FAR, LOW}) {
            due("compare(" + law + ", 12)", p.compare(law, 12), -1);
        }
        for (int n = 0; n < 6; n++) {
            Checks.law(p, n == 5 ? "stands high; stands 0 if x = 1 and y = 2" : "holds");
            due("compare(" + n + ", 12)", p.compare(n, 12), n == 5 ? 11 : 12);
            due("compare(" + (n + 1) + ", 12)", p.compare(n + 1, 12), -1);
        }
        for (int cell : NO_CELLS) {
            due("compare(NONE, " + cell + ")", p.compare(-1, cell), -1);
            due("compare(5, " + cell + ")", p.compare(5, cell), -1);
        }
        p.force(0);
        due("compare(5, 12): in place of that in FORCE", p.compare(5, 12), 11);
        due("compare(NONE, 12): none", p.compare(-1, 12), 13);
        due("compare(0, 12)", p.compare(0, 12), 12);
        due("cell(12, 5): that in FORCE stays", p.cell(12, 5), 12);
        due("status(): compare() is not told", p.status(), 0);
    }

    // n 1 .. 60, SEED 0 .. 1,000,000, as long as HOUR is below 999.
    private void p37Days() {
        MercuryPost p = begin("37");
        for (int n : new int[] {0, -1, 61, FAR, LOW}) {
            due("days(0, " + n + ")", p.days(0, n), -1);
            due("status()", p.status(), -1);
        }
        for (int seed : new int[] {-1, 1000001, 1000003, FAR, LOW}) {
            due("days(" + seed + ", 1)", p.days(seed, 1), -1);
        }
        due("count(7)", p.count(7), 10);
        due("days(0, 1)", p.days(0, 1), 0);
        due("days(0, 60)", p.days(0, 60), 0);
        due("days(1000000, 1)", p.days(1000000, 1), 0);
        due("days(1000000, 60)", p.days(1000000, 60), 0);
        due("status()", p.status(), 0);
        // from 0: 12345 of 8 is 1, 628841 of 25 is 16, 621889 of 4 is 1
        p.days(0, 1);
        due("drawn(1, 0): spilt", p.drawn(1, 0), 1);
        due("drawn(1, 1)", p.drawn(1, 1), 16);
        due("drawn(0, 0)", p.drawn(0, 0), 0);
        for (int cell = 0; cell < 25; cell++) {
            p.door(cell, 1);
        }
        due("days(0, 1): READ at once", p.days(0, 1), 1);
        due("drawn(1, 2)", p.drawn(1, 2), 0);
        p.terms(0, 998);
        due("days(0, 60): one hour is left", p.days(0, 60), 1);
        due("drawn(1, 2)", p.drawn(1, 2), 998);
        p.terms(0, 999);
        due("days(0, 60): none", p.days(0, 60), 0);
        due("drawn(1, 0)", p.drawn(1, 0), 0);
        p.terms(0, 5);
        p.spill(1, 3);
        due("days(0, 1): it is not IN, nothing is spilt", p.days(0, 1), 1);
        due("drawn(1, 1)", p.drawn(1, 1), 3);
        p.pass();
        due("days(0, 1): those that were READ ahead, too", p.days(0, 1), 1);
        due("drawn(1, 2)", p.drawn(1, 2), 5);
        due("count(13): on paper", p.count(13), 6);
        due("count(2)", p.count(2), 1);
        due("count(5)", p.count(5), 2);
    }

    private void p38Drawn() {
        MercuryPost p = begin("38");
        for (int letter = -1; letter < 9; letter++) {
            for (int what = -1; what < 4; what++) {
                due("drawn(" + letter + ", " + what + "): ahead of any", p.drawn(letter, what), -1);
            }
        }
        p.days(0, 61);
        due("drawn(0, 0): ahead of any that was not REFUSED", p.drawn(0, 0), -1);
        p.days(0, 1);
        due("drawn(0, 0)", p.drawn(0, 0), 0);
        due("drawn(0, 1)", p.drawn(0, 1), -1);
        due("drawn(0, 2)", p.drawn(0, 2), -1);
        for (int letter : NO_LETTERS) {
            due("drawn(" + letter + ", 0)", p.drawn(letter, 0), -1);
        }
        for (int what : new int[] {-1, 3, FAR, LOW}) {
            due("drawn(0, " + what + ")", p.drawn(0, what), -1);
        }
        p.days(-1, 1);
        due("drawn(1, 1): REFUSED ones leave it", p.drawn(1, 1), 16);
        p.image(0);
        p.spill(1, 2);
        p.pass();
        p.undo();
        p.back(0);
        due("drawn(1, 1): the latest", p.drawn(1, 1), 16);
    }

    private void p39Images() {
        MercuryPost p = begin("39, 40");
        for (int k : new int[] {-1, 2, FAR, LOW}) {
            due("image(" + k + ")", p.image(k), -1);
            due("back(" + k + ")", p.back(k), -1);
        }
        due("back(0): not kept", p.back(0), -2);
        due("back(1): not kept", p.back(1), -2);
        p.raise(0, 3);
        due("image(1)", p.image(1), 0);
        due("back(0): not kept yet", p.back(0), -2);
        due("count(5): back() was REFUSED", p.count(5), 1);
        p.raise(0, 4);
        due("image(0)", p.image(0), 0);
        p.raise(0, 5);
        due("back(1)", p.back(1), 0);
        due("cell(0, 0)", p.cell(0, 0), 3);
        due("back(0)", p.back(0), 0);
        due("cell(0, 0)", p.cell(0, 0), 4);
        due("back(1): IMAGES stay", p.back(1), 0);
        due("cell(0, 0)", p.cell(0, 0), 3);
        due("undo(): nothing behind back()", p.undo(), -3);
        p.image(0);
        p.raise(0, 9);
        due("back(0): kept anew", p.back(0), 0);
        due("cell(0, 0)", p.cell(0, 0), 3);
        due("count(7)", p.count(7), 8);
        due("count(8)", p.count(8), 3);
        MercuryPost q = begin("39, 40, all that is kept, and what is not");
        q.image(0);
        q.door(24, 1);
        q.spill(0, 24);
        q.spill(1, 0);
        q.terms(0, 998);
        q.terms(1, 10);
        q.terms(2, 9);
        q.pass();
        for (int n = 0; n < 6; n++) {
            q.seen(30, 24);
            Checks.law(q, "stands " + (90 + n));
        }
        q.force(5);
        q.image(1);
        Checks.orders(q, "split 5 by 0");
        Checks.row(q, 255);
        Checks.law(q, "stands");
        Checks.orders(q, "stands");
        Checks.feed(q, "abc");
        q.days(7, 3);
        due("back(0): to the first of all", q.back(0), 0);
        int[] first = {0, 8, 0, 0, 0, 0, 3, 0, 0, 1, 1, 1, -1, 0, 1, 0};
        for (int what = 0; what < 16; what++) {
            due("count(" + what + ")", q.count(what), first[what]);
        }
        due("fault() stays", q.fault(), 0);
        due("beads() stay", q.beads(), 1);
        due("back(1)", q.back(1), 0);
        int[] then = {1 << 24, 6, 1, 6, 6, 0, 3, 0, 0, 1, 1, 1, 5, 999, 10, 9};
        for (int what = 0; what < 16; what++) {
            due("count(" + what + ")", q.count(what), then[what]);
        }
        due("letter(0, 2)", q.letter(0, 2), 998);
        due("letter(1, 1)", q.letter(1, 1), 0);
        due("cell(0, 3)", q.cell(0, 3), 95);
        due("canBe()", q.canBe(), 1);
        due("pass()", q.pass(), -3);
    }

    private void p41Count() {
        MercuryPost p = begin("41");
        for (int what : new int[] {-1, 16, 17, FAR, LOW, -2}) {
            due("count(" + what + ")", p.count(what), -1);
        }
        p.door(25, 0);
        p.back(0);
        p.undo();
        p.row();
        for (int n = 0; n < 7; n++) {
            p.seen(0, 0);
        }
        for (int what = 7; what < 12; what++) {
            due("count(" + what + "): one of each", p.count(what), 1);
        }
        p.image(0);
        p.spill(9, 9);
        p.back(0);
        due("count(7): IMAGES do not keep that", p.count(7), 2);
        for (int n = 0; n < 300; n++) {
            p.raise(25, 0);
        }
        due("count(7): 300 more", p.count(7), 302);
        p.cell(25, 0);
        p.end(9);
        p.later(9, 0);
        p.kerbs(25, 0, 0);
        p.apart(-1, 0);
        p.few(0, 0);
        due("count(7): NONE is not REFUSED", p.count(7), 302);
    }

    /** Each call whose refusal is told, by each code that it has. */
    private void p42Status() {
        MercuryPost p = begin("42");
        due("status(): ahead of any", p.status(), 0);
        p.cell(-1, 0);
        p.letter(-1, 0);
        p.end(-1);
        p.few(0, 0);
        p.drawn(0, 0);
        p.run(-1, 0);
        due("status(): NONE is not told", p.status(), 0);
        p.undo();
        due("status()", p.status(), -3);
        p.cell(0, 0);
        p.feed(0, 0, 0, 0, 0);
        p.end(0);
        p.beads();
        p.fault();
        p.stopped();
        p.later(0, 0);
        p.readWith(0);
        p.run(0, 0);
        p.basin(0);
        p.meeting(0, 0);
        p.delay(0, 0);
        p.apart(0, -1);
        p.kerbs(0, 0, 0);
        p.springs();
        p.pools();
        p.longest(0);
        p.forget();
        p.canBe();
        p.look(0);
        p.few(1, 1);
        p.compare(-1, 0);
        p.drawn(0, 0);
        p.count(0);
        p.status();
        due("status(): none of these is told", p.status(), -3);
        due("orders()", Checks.orders(p, "pass"), 1);
        due("status()", p.status(), 0);
        p.pass();
        p.orders();
        due("status()", p.status(), -6);
        p.undo();
        due("status()", p.status(), 0);
        p.force(3);
        due("status()", p.status(), -2);
        p.days(1, 1);
        due("status()", p.status(), 0);
        p.image(7);
        due("status()", p.status(), -1);
        p.image(0);
        due("status()", p.status(), 0);
    }
}
