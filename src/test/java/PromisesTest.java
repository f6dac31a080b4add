/** Each promise by hand: ordinary calls, the edges that the document names, wrong numbers. */
public final class PromisesTest {
    private static final int FAR = 2147483647;
    private static final int LOW = -2147483648;
    private static final int ALL = 33554431;

    private final Checks checks = new Checks("PromisesTest");
    private String at = "";

    private PromisesTest() {
    }

    public static void main(String[] args) {
        PromisesTest t = new PromisesTest();
        t.newObject();
        t.cellAndDoor();
        t.letterAndTerms();
        t.tape();
        t.rows();
        t.lawNumbers();
        t.ordersWhole();
        t.ordersUndone();
        t.textsOneBehindAnother();
        t.force();
        t.spillRaiseSplit();
        t.passHours();
        t.undone();
        t.laterAndReadWith();
        t.runs();
        t.delays();
        t.apart();
        t.kerbs();
        t.kerbsAtCellZero();
        t.firstCalls();
        t.springsPoolsLongest();
        t.seenAndLook();
        t.lookLater();
        t.few();
        t.compare();
        t.days();
        t.images();
        t.imagesOfLaws();
        t.counts();
        t.statusOfEach();
        t.checks.end();
    }

    private void due(String call, long got, long want) {
        checks.due(at + ": " + call, got, want);
    }

    private MercuryPost begin(String what) {
        at = what;
        return new MercuryPost();
    }

    /** Doors at 4 and 20; down a row 0 .. 4, the cells behind it all 9 high. */
    private static MercuryPost slide() {
        MercuryPost p = new MercuryPost();
        int[] bytes = new int[75];
        for (int cell = 0; cell < 25; cell++) {
            bytes[cell * 3] = cell;
            bytes[cell * 3 + 1] = cell < 5 ? 8 - cell : 9;
        }
        bytes[4 * 3 + 2] = 1;
        bytes[20 * 3 + 2] = 1;
        Checks.row(p, bytes);
        return p;
    }

    // 1, 41, 42, and the constant
    private void newObject() {
        MercuryPost p = begin("new");
        due("NONE", MercuryPost.NONE, -1);
        int[] counts = {0, 8, 0, 0, 0, 0, 0, 0, 0, 0, 0, 0, -1, 0, 1, 0};
        for (int what = 0; what < 16; what++) {
            due("count(" + what + ")", p.count(what), counts[what]);
        }
        for (int cell = 0; cell < 25; cell++) {
            due("high of " + cell, p.cell(cell, 0), 0);
            due("door of " + cell, p.cell(cell, 1), 0);
        }
        due("fault()", p.fault(), -1);
        due("stopped()", p.stopped(), -1);
        due("beads()", p.beads(), 0);
        due("status()", p.status(), 0);
        due("drawn(0, 0)", p.drawn(0, 0), -1);
        due("back(0)", p.back(0), -2);
        due("undo()", p.undo(), -3);
        due("few(1, 1)", p.few(1, 1), 900000000000L);
    }

    // 2, 3
    private void cellAndDoor() {
        MercuryPost p = begin("cell, door");
        due("door(0, 1)", p.door(0, 1), 0);
        due("door(0, 1)", p.door(0, 1), 1);
        due("door(24, 1)", p.door(24, 1), 0);
        due("cell(24, 1)", p.cell(24, 1), 1);
        due("door(24, 0)", p.door(24, 0), 1);
        due("cell(24, 1)", p.cell(24, 1), 0);
        due("door(-1, 0)", p.door(-1, 0), -1);
        due("door(25, 0)", p.door(25, 0), -1);
        due("door(1, -1)", p.door(1, -1), -1);
        due("door(1, 2)", p.door(1, 2), -1);
        due("status()", p.status(), -1);
        p.raise(12, 3);
        p.raise(11, 1);
        p.raise(13, 1);
        p.raise(7, 1);
        p.raise(17, 1);
        due("cell(12, 5): the first way of alike ones", p.cell(12, 5), 17);
        p.raise(17, 2);
        due("cell(12, 5): right", p.cell(12, 5), 13);
        p.raise(13, 2);
        due("cell(12, 5): down", p.cell(12, 5), 7);
        p.raise(7, 2);
        due("cell(12, 5): left", p.cell(12, 5), 11);
        p.raise(11, 3);
        p.raise(17, 3);
        p.raise(13, 3);
        p.raise(7, 3);
        due("cell(12, 5): none lower", p.cell(12, 5), 12);
        p.raise(11, 2);
        p.door(12, 1);
        due("cell(12, 5): a door", p.cell(12, 5), 12);
        p.door(12, 0);
        due("cell(12, 5)", p.cell(12, 5), 11);
        p.spill(0, 12);
        p.spill(7, 12);
        due("cell(12, 2)", p.cell(12, 2), 129);
        p.pass();
        due("cell(12, 2)", p.cell(12, 2), 0);
        due("cell(11, 2)", p.cell(11, 2), 129);
        due("cell(4, 5): no cell beyond the row", p.cell(4, 5), 4);
        for (int cell : new int[] {-1, 25, FAR, LOW}) {
            due("cell(" + cell + ", 0)", p.cell(cell, 0), -1);
            due("door(" + cell + ", 0)", p.door(cell, 0), -1);
        }
        due("cell(0, -1)", p.cell(0, -1), -1);
        due("cell(0, 6)", p.cell(0, 6), -1);
        p.raise(0, 1);
        int undone = p.count(5);
        p.door(3, 1);
        due("count(5) behind door()", p.count(5), undone);
        Checks.law(p, "holds if high = 1; stands 50 - x; stands 1000 if y = 4; stands 0 - 1 if y = 3");
        p.force(0);
        due("cell(0, 4)", p.cell(0, 4), 1);
        due("cell(0, 5): held", p.cell(0, 5), 0);
        due("cell(1, 4)", p.cell(1, 4), 0);
        due("cell(1, 3)", p.cell(1, 3), 49);
        due("cell(20, 3): the nearest", p.cell(20, 3), 99);
        due("cell(15, 3): the nearest", p.cell(15, 3), 0);
        due("cell(0, 0)", p.cell(0, 0), 1);
        p.door(0, 1);
        due("cell(0, 4) with a door", p.cell(0, 4), 1);
    }

    // 4, 5
    private void letterAndTerms() {
        MercuryPost p = begin("letter, terms");
        due("letter(0, 0)", p.letter(0, 0), 0);
        due("letter(0, 1)", p.letter(0, 1), -1);
        due("letter(0, 2)", p.letter(0, 2), -1);
        p.door(9, 1);
        p.spill(7, 9);
        due("letter(7, 0)", p.letter(7, 0), 1);
        due("letter(7, 1)", p.letter(7, 1), 9);
        due("letter(7, 2)", p.letter(7, 2), -1);
        due("terms(0, 998)", p.terms(0, 998), 0);
        p.pass();
        due("letter(7, 0)", p.letter(7, 0), 2);
        due("letter(7, 1)", p.letter(7, 1), 9);
        due("letter(7, 2)", p.letter(7, 2), 998);
        due("letter(7, 3)", p.letter(7, 3), -1);
        due("letter(7, -1)", p.letter(7, -1), -1);
        due("letter(-1, 0)", p.letter(-1, 0), -1);
        due("letter(8, 0)", p.letter(8, 0), -1);
        due("letter(far, 0)", p.letter(FAR, 0), -1);
        due("terms(0, 5)", p.terms(0, 5), 999);
        due("terms(1, 10)", p.terms(1, 10), 1);
        due("terms(1, 0)", p.terms(1, 0), 10);
        due("terms(2, 9)", p.terms(2, 9), 0);
        due("terms(2, 0)", p.terms(2, 0), 9);
        int[][] wrong = {{0, 1000}, {0, -1}, {1, 11}, {1, -1}, {2, 10}, {2, -1}, {3, 0}, {-1, 0}, {FAR, 0}, {LOW, 0}};
        for (int[] w : wrong) {
            due("terms(" + w[0] + ", " + w[1] + ")", p.terms(w[0], w[1]), -1);
        }
        due("count(13)", p.count(13), 5);
        due("count(14)", p.count(14), 0);
        due("count(15)", p.count(15), 0);
        p.raise(0, 1);
        p.terms(3, 0);
        due("count(5) behind a terms() that was REFUSED", p.count(5), 1);
        p.terms(2, 0);
        due("count(5) behind terms()", p.count(5), 0);
        due("undo()", p.undo(), -3);
    }

    // 6, 7
    private void tape() {
        MercuryPost p = begin("tape");
        due("end(0)", p.end(0), 0);
        due("end(1)", p.end(1), -1);
        for (int n = 1; n <= 20; n++) {
            due("feed " + n, p.feed(0, 0, 0, 0, 0), n * 20);
        }
        due("feed 21", p.feed(0, 0, 0, 0, 0), -1);
        due("count(6)", p.count(6), 400);
        due("end(401)", p.end(401), -1);
        due("end(-1)", p.end(-1), -1);
        due("end(low)", p.end(LOW), -1);
        due("end(381)", p.end(381), 381);
        due("feed beyond", p.feed(0, 0, 0, 0, 0), -1);
        due("count(6)", p.count(6), 381);
        due("end(380)", p.end(380), 380);
        due("feed to the full", p.feed(0, 0, 0, 0, 0), 400);
        due("end(0)", p.end(0), 0);
        due("status(): none of these is REFUSED", p.status(), 0);
        due("feed, the highest byte first", p.feed(0x03070104, 0x09000000, 0xFFFFFFFF, 0x80000000, LOW), 20);
        due("row()", p.row(), 2);
        due("beads()", p.beads(), 5);
        due("cell(3, 0)", p.cell(3, 0), 7);
        due("cell(4, 0)", p.cell(4, 0), 9);
    }

    // 8, 9
    private void rows() {
        MercuryPost p = begin("row");
        due("row() of none", p.row(), -6);
        due("status()", p.status(), -6);
        due("beads()", p.beads(), 0);
        due("row()", Checks.row(p, 0, 9, 1, 25, 0, 0, 1, 10, 0, 2, 0, 2, 24, 0, 1, 3), 2);
        due("beads()", p.beads(), 4);
        due("count(6)", p.count(6), 0);
        due("count(0)", p.count(0), 1 << 24 | 1);
        due("row() of none", p.row(), -6);
        due("beads() stay", p.beads(), 4);
        p.raise(5, 1);
        due("row() of beads alone", Checks.row(p, 200, 0, 0, 7, 7), 0);
        due("beads()", p.beads(), 2);
        due("status()", p.status(), 0);
        due("count(5) behind row()", p.count(5), 0);
        p.raise(5, 2);
        due("row()", p.row(), -6);
        due("count(5) behind a row() that was REFUSED", p.count(5), 1);
        due("row() twice of one", Checks.row(p, 0, 1, 0, 0, 2, 0), 2);
        due("cell(0, 0): the last", p.cell(0, 0), 2);
        due("cell(0, 1)", p.cell(0, 1), 0);
        due("beads()", p.beads(), 0);
        p.spill(0, 6);
        due("row() below a letter", Checks.row(p, 6, 4, 1), 1);
        due("letter(0, 1)", p.letter(0, 1), 6);
    }

    // 10, 12
    private void lawNumbers() {
        MercuryPost p = begin("law");
        due("law() of none", p.law(), -6);
        due("fault()", p.fault(), 0);
        due("law() of blanks", Checks.law(p, "   "), -6);
        due("fault()", p.fault(), 3);
        due("count(6)", p.count(6), 0);
        for (int n = 0; n < 6; n++) {
            p.raise(0, n + 1);
            due("law " + n, Checks.law(p, "stands " + n), n);
            due("fault()", p.fault(), -1);
        }
        due("count(4)", p.count(4), 6);
        due("count(5) behind law()", p.count(5), 6);
        due("a wrong order, for its fault", Checks.orders(p, " pass 1"), -6);
        due("fault()", p.fault(), 6);
        due("law 7", Checks.law(p, "nothing"), -5);
        due("status()", p.status(), -5);
        due("fault() of what was not read", p.fault(), 6);
        due("count(6)", p.count(6), 0);
        due("law 7 of none", p.law(), -5);
        due("count(10)", p.count(10), 2);
        p.force(5);
        due("cell(9, 3)", p.cell(9, 3), 5);
        p.force(0);
        due("cell(9, 3)", p.cell(9, 3), 0);
    }

    // 11, 13
    private void ordersWhole() {
        MercuryPost p = begin("orders");
        due("orders() of none", p.orders(), -6);
        due("fault()", p.fault(), 0);
        due("stopped()", p.stopped(), -1);
        due("orders()", Checks.orders(p, "spill 0 at 12; raise 12 to 3; split 0 by 1; pass"), 4);
        due("fault()", p.fault(), -1);
        due("stopped()", p.stopped(), -1);
        due("letter(0, 1)", p.letter(0, 1), 13);
        due("count(13)", p.count(13), 1);
        due("count(5)", p.count(5), 4);
        due("orders() that can't be", Checks.orders(p, "pass times 3; raise 1 to 4; spill 0 at 1; pass"), -3);
        due("status()", p.status(), -3);
        due("stopped()", p.stopped(), 2);
        due("fault()", p.fault(), -1);
        due("count(13)", p.count(13), 1);
        due("cell(1, 0)", p.cell(1, 0), 0);
        due("count(5)", p.count(5), 4);
        due("count(9): its parts are no calls", p.count(9), 1);
        due("count(6)", p.count(6), 0);
        due("orders() that can't be read", Checks.orders(p, "pass; pas"), -6);
        due("stopped() behind that", p.stopped(), -1);
        due("fault()", p.fault(), 6);
        due("count(13)", p.count(13), 1);
        due("orders() of none that is run", Checks.orders(p, "spill 0 at 1 if 1 = 2"), 0);
        due("status()", p.status(), 0);
        due("orders() with numbers that can't be", Checks.orders(p, "spill 1 at 25"), -3);
        due("stopped()", p.stopped(), 0);
        due("orders(): too low", Checks.orders(p, "raise 0 - 1 to 0"), -3);
        due("orders(): a way", Checks.orders(p, "split 0 by 4"), -3);
        due("orders(): a broken sum", Checks.orders(p, "raise 0 to 1 / 0"), -3);
        due("orders(): a broken sum ahead", Checks.orders(p, "raise 1 % 0 to 1"), -3);
        due("orders(): a broken if", Checks.orders(p, "raise 0 to 1 if 1 / 0 = 1"), 0);
        due("orders(): a sum is not asked if its if is not so", Checks.orders(p, "raise 0 to 1 / 0 if 1 = 0"), 0);
        due("orders(): each time asked", Checks.orders(p, "raise 5 to high 5 + 1 times 20 if high 5 < 7"), 7);
        due("cell(5, 0)", p.cell(5, 0), 7);
        due("orders(): done, latest", Checks.orders(p,
                "raise 6 to 3 if done = 0; raise 7 to 5 if latest = 0 - 1; door 1 if 1 = 1"), -6);
        p.door(8, 1);
        due("orders(): latest, left, read", Checks.orders(p,
                "spill 1 at 8; spill 2 at 8; raise 6 to done; raise 7 to latest + 5; pass; raise 8 to latest;"
                + "raise 9 to left; raise 10 to read; pass if at 1 = 8; raise 11 to latest + 1"), 10);
        int[] high = {2, 4, 2, 5, 2, 1};
        for (int k = 0; k < 6; k++) {
            due("cell(" + (6 + k) + ", 0)", p.cell(6 + k, 0), high[k]);
        }
        due("orders(): at of one that is in", Checks.orders(p, "raise 0 to at 7 + 4 if at 7 = 0 - 1"), 1);
        due("cell(0, 0)", p.cell(0, 0), 3);
        due("orders(): hour", Checks.orders(p, "raise 1 to hour if hour = 3"), 1);
        due("orders(): high", Checks.orders(p, "raise 2 to high 1"), 1);
        due("cell(2, 0)", p.cell(2, 0), 3);
    }

    // 11, 19: what can be undone goes back, too
    private void ordersUndone() {
        MercuryPost p = begin("orders undone");
        p.raise(0, 1);
        p.spill(0, 0);
        due("orders()", Checks.orders(p, "pass times 20; raise 1 to 10"), -3);
        due("count(5)", p.count(5), 2);
        due("undo()", p.undo(), 0);
        due("undo()", p.undo(), 1);
        due("undo()", p.undo(), -3);
        due("orders()", Checks.orders(p, "pass times 20; raise 1 to 9; spill 2 at 3; split 2 by 0"), 23);
        due("count(5)", p.count(5), 16);
        due("undo()", p.undo(), 2);
        due("undo()", p.undo(), 0);
        due("undo()", p.undo(), 1);
        for (int n = 0; n < 13; n++) {
            due("undo()", p.undo(), 3);
        }
        due("undo()", p.undo(), -3);
        due("count(13)", p.count(13), 7);
        p.terms(0, 998);
        due("orders() at the last hour", Checks.orders(p, "pass; pass"), -3);
        due("stopped()", p.stopped(), 1);
        due("count(13)", p.count(13), 998);
        due("orders() at the last hour", Checks.orders(p, "pass times 2 if hour < 999"), 1);
        due("count(13)", p.count(13), 999);
    }

    // 14
    private void force() {
        MercuryPost p = begin("force");
        due("force(NONE)", p.force(-1), -1);
        due("status()", p.status(), 0);
        due("force(0)", p.force(0), -2);
        due("status()", p.status(), -2);
        Checks.law(p, "stands 7");
        Checks.law(p, "stands 8");
        p.raise(0, 1);
        due("force(1)", p.force(1), -1);
        due("cell(0, 3)", p.cell(0, 3), 8);
        due("force(0)", p.force(0), 1);
        due("force(2)", p.force(2), -2);
        due("force(-2)", p.force(-2), -2);
        due("force(far)", p.force(FAR), -2);
        due("count(12)", p.count(12), 0);
        due("count(5)", p.count(5), 1);
        due("force(NONE)", p.force(-1), 0);
        due("cell(0, 3)", p.cell(0, 3), 1);
    }

    // 15, 16, 17
    private void spillRaiseSplit() {
        MercuryPost p = begin("spill, raise, split");
        due("spill(0, 24)", p.spill(0, 24), 1);
        due("spill(7, 24)", p.spill(7, 24), 2);
        due("spill(0, 24)", p.spill(0, 24), -3);
        due("spill(0, 25): the number ahead", p.spill(0, 25), -1);
        due("spill(-1, 0)", p.spill(-1, 0), -1);
        due("spill(8, 0)", p.spill(8, 0), -1);
        due("spill(1, -1)", p.spill(1, -1), -1);
        due("raise(0, 9)", p.raise(0, 9), 0);
        due("raise(0, 9)", p.raise(0, 9), -3);
        due("raise(0, 4)", p.raise(0, 4), 9);
        due("raise(0, -1)", p.raise(0, -1), -1);
        due("raise(0, 10)", p.raise(0, 10), -1);
        due("raise(-1, 0)", p.raise(-1, 0), -1);
        due("raise(25, 0)", p.raise(25, 0), -1);
        due("raise(far, far)", p.raise(FAR, FAR), -1);
        due("split(0, 0): beyond", p.split(0, 0), -3);
        due("split(0, 1): beyond", p.split(0, 1), -3);
        due("split(0, 2)", p.split(0, 2), 19);
        due("split(0, 3)", p.split(0, 3), 18);
        due("split(0, 1)", p.split(0, 1), 19);
        due("split(0, 0)", p.split(0, 0), 24);
        due("cell(24, 2)", p.cell(24, 2), 129);
        due("split(1, 0): in", p.split(1, 0), -3);
        due("split(1, 4)", p.split(1, 4), -1);
        due("split(1, -1)", p.split(1, -1), -1);
        due("split(8, 0)", p.split(8, 0), -1);
        due("split(-1, 0)", p.split(-1, 0), -1);
        p.spill(1, 0);
        due("split(1, 2): beyond", p.split(1, 2), -3);
        due("split(1, 3): beyond", p.split(1, 3), -3);
        p.door(0, 1);
        p.pass();
        due("split(1, 0): read", p.split(1, 0), -3);
        due("spill(1, 0): read", p.spill(1, 0), -3);
    }

    // 18
    private void passHours() {
        MercuryPost p = slide();
        at = "pass";
        p.spill(0, 0);
        p.spill(1, 2);
        p.spill(2, 4);
        p.spill(3, 20);
        due("pass()", p.pass(), 2);
        due("letter(0, 1)", p.letter(0, 1), 1);
        due("letter(1, 1)", p.letter(1, 1), 3);
        due("letter(2, 2)", p.letter(2, 2), 0);
        due("pass()", p.pass(), 0);
        due("pass()", p.pass(), 1);
        due("letter(1, 2)", p.letter(1, 2), 2);
        due("count(2)", p.count(2), 3);
        p.terms(0, 999);
        due("pass()", p.pass(), -3);
        due("status()", p.status(), -3);
        p.terms(0, 998);
        due("pass()", p.pass(), 0);
        due("count(13)", p.count(13), 999);
        due("letter(0, 1)", p.letter(0, 1), 4);
        p = begin("pass: all asked as it was ahead");
        Checks.law(p, "stands many");
        p.force(0);
        p.spill(0, 12);
        p.spill(1, 13);
        due("pass()", p.pass(), 0);
        due("letter(0, 1)", p.letter(0, 1), 17);
        due("letter(1, 1): 12 still stood as high", p.letter(1, 1), 18);
        p = begin("pass: held by the hour");
        Checks.law(p, "holds if hour = 0");
        p.force(0);
        p.raise(0, 1);
        p.spill(0, 0);
        p.pass();
        due("letter(0, 1)", p.letter(0, 1), 0);
        p.pass();
        due("letter(0, 1)", p.letter(0, 1), 5);
        p = begin("pass: held, but at a door");
        Checks.law(p, "holds");
        p.force(0);
        p.door(3, 1);
        p.spill(0, 3);
        due("pass()", p.pass(), 1);
    }

    // 19
    private void undone() {
        MercuryPost p = slide();
        at = "undo";
        p.spill(0, 4);
        p.raise(6, 2);
        p.split(0, 3);
        p.pass();
        p.pass();
        due("letter(0, 0)", p.letter(0, 0), 2);
        due("undo()", p.undo(), 3);
        due("letter(0, 0)", p.letter(0, 0), 1);
        due("letter(0, 2)", p.letter(0, 2), -1);
        due("letter(0, 1)", p.letter(0, 1), 4);
        due("count(13)", p.count(13), 1);
        due("undo()", p.undo(), 3);
        due("letter(0, 1)", p.letter(0, 1), 3);
        due("undo()", p.undo(), 2);
        due("letter(0, 1)", p.letter(0, 1), 4);
        p.door(6, 1);
        due("undo()", p.undo(), 1);
        due("cell(6, 0)", p.cell(6, 0), 9);
        due("cell(6, 1): doors stay", p.cell(6, 1), 1);
        due("undo()", p.undo(), 0);
        due("letter(0, 0)", p.letter(0, 0), 0);
        due("letter(0, 1)", p.letter(0, 1), -1);
        due("undo()", p.undo(), -3);
        due("status()", p.status(), -3);
        for (int n = 0; n < 40; n++) {
            p.raise(7, n % 9);
        }
        due("count(5)", p.count(5), 16);
        for (int n = 0; n < 16; n++) {
            due("undo()", p.undo(), 1);
        }
        due("cell(7, 0)", p.cell(7, 0), 23 % 9);
        due("undo()", p.undo(), -3);
        p.raise(7, 9);
        p.spill(1, 1);
        p.spill(1, 1);
        p.seen(0, 0);
        p.image(0);
        p.days(1, 1);
        due("count(5): these leave it", p.count(5), 2);
        p.back(1);
        due("count(5): a back() that was REFUSED", p.count(5), 2);
        p.back(0);
        due("undo() behind back()", p.undo(), -3);
    }

    // 20, 21
    private void laterAndReadWith() {
        MercuryPost p = slide();
        at = "later, readWith";
        p.spill(0, 0);
        p.spill(1, 2);
        p.spill(2, 0);
        p.spill(3, 24);
        due("later(0, 0)", p.later(0, 0), 0);
        due("later(0, 3)", p.later(0, 3), 3);
        due("later(0, 60)", p.later(0, 60), 4);
        due("later(0, 61)", p.later(0, 61), -1);
        due("later(0, -1)", p.later(0, -1), -1);
        due("later(8, 1)", p.later(8, 1), -1);
        due("later(-1, 1)", p.later(-1, 1), -1);
        due("later(7, 1): in", p.later(7, 1), -1);
        due("readWith(0)", p.readWith(0), 5);
        due("readWith(1)", p.readWith(1), 2);
        due("readWith(3): never", p.readWith(3), -1);
        due("readWith(7): in", p.readWith(7), -1);
        due("readWith(8)", p.readWith(8), -1);
        due("readWith(-1)", p.readWith(-1), -1);
        due("letter(0, 0): on paper", p.letter(0, 0), 1);
        due("count(13): on paper", p.count(13), 0);
        for (int n = 0; n < 5; n++) {
            p.pass();
        }
        due("letter(0, 2)", p.letter(0, 2), 4);
        due("readWith(2): already", p.readWith(2), 5);
        p.terms(0, 4);
        p.spill(4, 4);
        due("readWith(4): with those that were read in that hour", p.readWith(4), 21);
        p = begin("later beyond 999");
        Checks.law(p, "holds if hour < 1000 + 1");
        p.force(0);
        p.terms(0, 999);
        p.raise(12, 1);
        p.spill(0, 12);
        due("later(0, 2)", p.later(0, 2), 12);
        due("later(0, 3)", p.later(0, 3), 17);
        p = begin("readWith at its bound");
        Checks.law(p, "holds if hour < 58");
        p.force(0);
        p.raise(12, 1);
        p.door(17, 1);
        p.spill(0, 12);
        due("readWith(0): behind 60", p.readWith(0), 1);
        Checks.law(p, "holds if hour < 59");
        p.force(1);
        due("readWith(0): behind 61", p.readWith(0), -1);
        p = begin("later with all others");
        Checks.law(p, "stands 2 * high + 3 * many");
        p.force(0);
        for (int cell = 0; cell < 25; cell++) {
            p.raise(cell, 9);
        }
        p.raise(11, 5);
        p.raise(12, 4);
        p.spill(0, 12);
        due("later(0, 1): alone", p.later(0, 1), 11);
        p.spill(1, 11);
        p.raise(11, 4);
        due("later(0, 1): the other one stands in the way", p.later(0, 1), 12);
    }

    // 22, 23, 24
    private void runs() {
        MercuryPost p = slide();
        at = "runs";
        due("run(0, NONE)", p.run(0, -1), 4);
        due("run(0, 0)", p.run(0, 0), 0);
        due("run(0, 3)", p.run(0, 3), 3);
        due("run(0, far)", p.run(0, FAR), 4);
        due("run(0, -2)", p.run(0, -2), -1);
        due("run(0, low)", p.run(0, LOW), -1);
        due("run(-1, 0)", p.run(-1, 0), -1);
        due("run(25, 0)", p.run(25, 0), -1);
        due("run(4, NONE): a door", p.run(4, -1), 0);
        due("run(4, 5)", p.run(4, 5), 4);
        due("run(7, NONE)", p.run(7, -1), 3);
        due("basin(4)", p.basin(4), 1023);
        due("basin(3): none ends there", p.basin(3), 0);
        due("basin(20): its own", p.basin(20), 1 << 20);
        due("basin(25)", p.basin(25), -1);
        due("basin(-1)", p.basin(-1), -1);
        due("meeting(0, 2)", p.meeting(0, 2), 2);
        due("meeting(2, 0)", p.meeting(2, 0), 2);
        due("meeting(5, 6)", p.meeting(5, 6), 1);
        due("meeting(0, 24)", p.meeting(0, 24), -1);
        due("meeting(24, 24)", p.meeting(24, 24), 24);
        due("meeting(25, 0)", p.meeting(25, 0), -1);
        due("meeting(0, -1)", p.meeting(0, -1), -1);
        Checks.law(p, "holds if x = 2; stands 40 if many > 0 and x = 1; holds if hour > 0");
        p.force(0);
        due("run(0, NONE): held on the way", p.run(0, -1), 2);
        due("run(0, far)", p.run(0, FAR), 2);
        p.spill(0, 1);
        due("run(0, NONE): as all is now", p.run(0, -1), 0);
        due("run(1, NONE)", p.run(1, -1), 1);
    }

    // 25
    private void delays() {
        MercuryPost p = slide();
        at = "delay";
        due("delay(0, 0): at a door, each an hour behind", p.delay(0, 0), 1);
        due("delay(4, 4): on the door", p.delay(4, 4), 1);
        due("delay(0, 2): ahead of it", p.delay(0, 2), 0);
        due("delay(2, 0)", p.delay(2, 0), 0);
        due("delay(5, 1): 1 behind an hour", p.delay(5, 1), 0);
        due("delay(5, 6)", p.delay(5, 6), 0);
        due("delay(24, 24): it stays", p.delay(24, 24), -1);
        due("delay(24, 0)", p.delay(24, 0), 0);
        due("delay(25, 0)", p.delay(25, 0), -1);
        due("delay(0, 25)", p.delay(0, 25), -1);
        due("delay(-1, 0)", p.delay(-1, 0), -1);
        p.door(4, 0);
        due("delay(0, 2): to where both stay", p.delay(0, 2), -1);
        MercuryPost q = slide();
        q.raise(6, 8);
        q.raise(7, 8);
        q.raise(8, 8);
        due("delay(0, 6): joined at 1 in one hour", q.delay(0, 6), 1);
        due("delay(6, 0)", q.delay(6, 0), 1);
    }

    // 26
    private void apart() {
        MercuryPost p = slide();
        at = "apart";
        due("apart(0, NONE)", p.apart(0, -1), 0);
        due("apart(0, 0)", p.apart(0, 0), -1);
        due("apart(31, NONE)", p.apart(31, -1), 1);
        due("apart(31, 4)", p.apart(31, 4), 0);
        due("apart(31, 5)", p.apart(31, 5), -1);
        due("apart(31, -2)", p.apart(31, -2), -1);
        due("apart(31, far)", p.apart(31, FAR), -1);
        int cells = 1 | 1 << 6 | 1 << 1 | 1 << 7 | 1 << 10;
        due("apart: 0 and 6, 1 and 7 clash", p.apart(cells, -1), 2);
        int[] kinds = {0, 0, 1, 1, 0};
        for (int k = 0; k < 5; k++) {
            due("apart, kind of the one " + k, p.apart(cells, k), kinds[k]);
        }
        due("apart of 8", p.apart(255, -1), 2);
        due("apart of 9", p.apart(511, -1), -1);
        due("apart(-1, NONE)", p.apart(-1, -1), -1);
        due("apart(low, NONE)", p.apart(LOW, -1), -1);
        due("apart beyond the yard", p.apart(ALL + 1, -1), -1);
        due("apart of the last", p.apart(1 << 24, 0), 0);
        MercuryPost q = begin("apart of one pool");
        for (int cell = 0; cell < 25; cell++) {
            q.raise(cell, Math.abs(cell % 5 - 2) + Math.abs(cell / 5 - 2));
        }
        int eight = 0xFF;
        due("apart of 8 that all end at one", q.apart(eight, -1), 8);
        for (int k = 0; k < 8; k++) {
            due("apart, kind of the one " + k, q.apart(eight, k), k);
        }
    }

    // 27
    private void kerbs() {
        MercuryPost p = slide();
        at = "kerbs";
        due("kerbs(0, 4, 0)", p.kerbs(0, 4, 0), 0);
        due("kerbs(0, 4, 1)", p.kerbs(0, 4, 1), 0);
        due("kerbs(4, 4, 0): its own door", p.kerbs(4, 4, 0), 0);
        due("kerbs(0, 20, 0): not by two", p.kerbs(0, 20, 0), -1);
        due("kerbs(0, 20, 1)", p.kerbs(0, 20, 1), -1);
        due("kerbs(0, 3, 0): no door", p.kerbs(0, 3, 0), -1);
        due("kerbs(25, 4, 0)", p.kerbs(25, 4, 0), -1);
        due("kerbs(-1, 4, 0)", p.kerbs(-1, 4, 0), -1);
        due("kerbs(0, 25, 0)", p.kerbs(0, 25, 0), -1);
        due("kerbs(0, -1, 0)", p.kerbs(0, -1, 0), -1);
        due("kerbs(0, 4, 2)", p.kerbs(0, 4, 2), -1);
        due("kerbs(0, 4, -1)", p.kerbs(0, 4, -1), -1);
        MercuryPost q = begin("kerbs: one, two");
        for (int cell = 0; cell < 25; cell++) {
            q.raise(cell, 9);
        }
        q.raise(12, 8);
        q.raise(17, 1);
        q.raise(13, 2);
        q.raise(7, 3);
        q.raise(11, 4);
        q.door(13, 1);
        q.door(7, 1);
        q.door(11, 1);
        due("kerbs(12, 13, 0)", q.kerbs(12, 13, 0), 1);
        due("kerbs(12, 13, 1)", q.kerbs(12, 13, 1), 1 << 17);
        due("kerbs(12, 7, 0)", q.kerbs(12, 7, 0), 2);
        due("kerbs(12, 7, 1): another door among them", q.kerbs(12, 7, 1), 1 << 17 | 1 << 13);
        due("kerbs(12, 11, 0): three", q.kerbs(12, 11, 0), -1);
        due("cell(17, 0): on paper", q.cell(17, 0), 1);
        Checks.law(q, "stands high * 2 % 18");
        q.force(0);
        due("kerbs with a law, by which 9 high stands lowest", q.kerbs(12, 7, 0), -1);
        MercuryPost r = begin("kerbs: the lowest as bits");
        for (int cell = 0; cell < 25; cell++) {
            r.raise(cell, 9);
        }
        int[] high = {0, 1, 9, 9, 9, 2, 3, 9, 9, 9, 4, 9};
        for (int cell = 0; cell < high.length; cell++) {
            r.raise(cell, high[cell]);
        }
        r.raise(5, 8);
        r.raise(10, 7);
        r.door(10, 1);
        due("kerbs(5, 10, 0)", r.kerbs(5, 10, 0), 2);
        due("kerbs(5, 10, 1)", r.kerbs(5, 10, 1), 1 | 1 << 6);
        MercuryPost s = begin("kerbs: one of several");
        int[] row = {8, 7, 6, 4, 2, 9, 9, 5, 3, 9};
        for (int cell = 0; cell < 25; cell++) {
            s.raise(cell, cell < 10 ? row[cell] : 9);
        }
        s.door(8, 1);
        due("run(0, 9)", s.run(0, 9), 4);
        due("kerbs(0, 8, 0)", s.kerbs(0, 8, 0), 1);
        due("kerbs(0, 8, 1): 4 would do, too", s.kerbs(0, 8, 1), 1 << 3);
        due("kerbs(3, 8, 1): not the start", s.kerbs(3, 8, 1), 1 << 4);
    }

    // 27: cell 0 can be one of them; what was tried on paper leaves nothing behind
    private void kerbsAtCellZero() {
        MercuryPost p = begin("kerbs at 0");
        for (int cell = 0; cell < 25; cell++) {
            p.raise(cell, 9);
        }
        p.raise(5, 6);
        p.raise(0, 4);
        p.raise(6, 5);
        p.raise(1, 5);
        p.door(0, 1);
        p.door(6, 1);
        p.door(10, 1);
        due("kerbs(5, 0, 0)", p.kerbs(5, 0, 0), 0);
        due("kerbs(5, 6, 1)", p.kerbs(5, 6, 1), 1);
        due("kerbs(1, 0, 0): 1 is the start", p.kerbs(1, 0, 0), 0);
        p.raise(1, 3);
        p.door(0, 0);
        p.door(1, 1);
        due("run(5, 9)", p.run(5, 9), 1);
        due("kerbs(5, 1, 0): through 0", p.kerbs(5, 1, 0), 0);
        due("kerbs(5, 6, 0)", p.kerbs(5, 6, 0), 1);
        p.raise(6, 8);
        p.raise(5, 9);
        p.raise(10, 8);
        p.raise(0, 2);
        p.raise(1, 1);
        p.raise(6, 0);
        p.raise(2, 4);
        p.raise(7, 2);
        p.door(0, 1);
        due("kerbs(2, 1, 0)", p.kerbs(2, 1, 0), 0);
        MercuryPost q = begin("kerbs at 0 and 1");
        for (int cell = 0; cell < 25; cell++) {
            q.raise(cell, 9);
        }
        q.raise(6, 8);
        q.raise(5, 7);
        q.raise(1, 6);
        q.raise(0, 5);
        q.raise(10, 6);
        q.door(10, 1);
        q.door(0, 1);
        due("run(6, 9)", q.run(6, 9), 0);
        due("kerbs(6, 10, 0)", q.kerbs(6, 10, 0), 2);
        due("kerbs(6, 10, 1)", q.kerbs(6, 10, 1), 3);
        Checks.law(q, "stands 50 if high = 9; holds if high = 9 and x = 0; stands high");
        q.force(0);
        due("kerbs with a law", q.kerbs(6, 10, 1), 3);
        due("cell(0, 3) behind it", q.cell(0, 3), 5);
        due("cell(1, 3) behind it", q.cell(1, 3), 6);
        due("cell(24, 3) behind it", q.cell(24, 3), 9);
        due("cell(0, 4) behind it", q.cell(0, 4), 0);
        MercuryPost r = begin("kerbs by which a drop is held no longer, or is");
        r.raise(12, 3);
        r.raise(13, 2);
        r.raise(14, 1);
        r.door(14, 1);
        r.raise(17, 9);
        r.raise(7, 9);
        r.raise(11, 9);
        r.raise(18, 9);
        r.raise(8, 9);
        r.raise(9, 5);
        r.raise(19, 5);
        Checks.law(r, "holds if x = 3 and y = 2 and high = 2; stands 2 if x = 3 and y = 2");
        r.force(0);
        due("run(12, 9)", r.run(12, 9), 13);
        due("kerbs(12, 14, 0)", r.kerbs(12, 14, 0), 1);
        due("kerbs(12, 14, 1): 9 high it holds no more", r.kerbs(12, 14, 1), 1 << 13);
        due("run(12, 9): on paper", r.run(12, 9), 13);
        due("cell(13, 4)", r.cell(13, 4), 1);
        Checks.law(r, "holds if high = 9; stands 2 if x = 3 and y = 2");
        r.force(1);
        due("run(12, 9)", r.run(12, 9), 14);
        due("kerbs(12, 14, 0)", r.kerbs(12, 14, 0), 0);
    }

    // each asked of a new object first, so that none lives on what another one left
    private void firstCalls() {
        for (int kind = 0; kind < 9; kind++) {
            MercuryPost p = begin("first call " + kind);
            p.raise(0, 9);
            p.raise(1, 8);
            p.raise(2, 7);
            p.raise(5, 9);
            p.raise(6, 9);
            p.raise(7, 9);
            p.raise(3, 6);
            p.raise(8, 9);
            p.door(3, 1);
            long got;
            long want;
            switch (kind) {
                case 0: got = p.run(0, -1); want = 3; break;
                case 1: got = p.basin(3); want = 1 | 2 | 4 | 8; break;
                case 2: got = p.meeting(0, 1); want = 1; break;
                case 3: got = p.delay(0, 0); want = 1; break;
                case 4: got = p.apart(3, -1); want = 1; break;
                case 5: got = p.kerbs(0, 3, 0); want = 0; break;
                case 6: got = p.springs() & 15; want = 1; break;
                case 7: got = p.pools() & 15; want = 0; break;
                default: got = p.longest(1); want = 0;
            }
            due("it", got, want);
        }
    }

    // 28, 29, 30
    private void springsPoolsLongest() {
        MercuryPost p = slide();
        at = "springs, pools, longest";
        due("springs()", p.springs(), ALL & ~31);
        due("pools()", p.pools(), ALL & ~1023 & ~(1 << 20));
        due("longest(0)", p.longest(0), 5);
        due("longest(1)", p.longest(1), 5);
        due("longest(2)", p.longest(2), -1);
        due("longest(-1)", p.longest(-1), -1);
        p.raise(5, 8);
        p.raise(0, 9);
        due("longest(1): the lowest of alike ones", p.longest(1), 0);
        MercuryPost q = begin("springs: 0 runs, too; longest from 1");
        q.raise(0, 1);
        q.raise(6, 1);
        due("springs()", q.springs(), ALL & ~(1 << 5) & ~(1 << 11));
        due("longest(0)", q.longest(0), 1);
        due("longest(1)", q.longest(1), 0);
        q.raise(0, 0);
        q.raise(6, 0);
        q.raise(1, 3);
        q.raise(2, 2);
        q.raise(6, 3);
        q.raise(0, 3);
        due("longest(0)", q.longest(0), 2);
        due("longest(1)", q.longest(1), 1);
        at = "springs, pools, longest";
        Checks.law(p, "holds");
        p.force(0);
        due("springs() if all are held", p.springs(), ALL);
        due("pools()", p.pools(), ALL & ~(1 << 4) & ~(1 << 20));
        due("longest(0)", p.longest(0), 0);
        due("longest(1)", p.longest(1), 0);
    }

    // 31 .. 34
    private void seenAndLook() {
        MercuryPost p = slide();
        at = "seen, look";
        p.spill(0, 0);
        p.spill(1, 1);
        p.spill(2, 4);
        due("canBe() without", p.canBe(), 7);
        due("look(0) without", p.look(0), 0);
        due("look(1)", p.look(1), 1);
        due("seen(2, 3)", p.seen(2, 3), 1);
        due("canBe()", p.canBe(), 2);
        due("forget()", p.forget(), 1);
        due("seen(30, 4): ever after", p.seen(30, 4), 1);
        due("canBe()", p.canBe(), 7);
        due("seen(0, 4)", p.seen(0, 4), 2);
        due("canBe()", p.canBe(), 4);
        due("look(0)", p.look(0), 0);
        p.seen(0, 5);
        due("canBe(): none", p.canBe(), 0);
        due("look(0)", p.look(0), -1);
        due("look(1)", p.look(1), -1);
        due("count(3)", p.count(3), 3);
        due("seen(0, 4)", p.seen(0, 4), 4);
        due("seen(0, 4)", p.seen(0, 4), 5);
        due("seen(0, 24)", p.seen(0, 24), 6);
        due("seen(0, 0)", p.seen(0, 0), -5);
        due("status()", p.status(), -5);
        due("seen(31, 0): the number ahead", p.seen(31, 0), -1);
        due("seen(-1, 0)", p.seen(-1, 0), -1);
        due("seen(0, -1)", p.seen(0, -1), -1);
        due("seen(0, 25)", p.seen(0, 25), -1);
        due("count(3)", p.count(3), 6);
        due("forget()", p.forget(), 6);
        due("forget()", p.forget(), 0);
        due("look(2)", p.look(2), -1);
        due("look(-1)", p.look(-1), -1);
        MercuryPost q = begin("look later");
        q.raise(12, 2);
        q.raise(11, 1);
        Checks.law(q, "holds if hour < 3; stands high + 2 * many");
        q.force(0);
        q.spill(0, 12);
        q.spill(1, 12);
        q.spill(2, 11);
        due("look(0): nothing is better", q.look(0), 0);
        due("look(1)", q.look(1), 2);
        q.forget();
        MercuryPost r = slide();
        at = "look at the least hour";
        r.spill(0, 0);
        r.spill(1, 0);
        r.spill(2, 6);
        Checks.law(r, "stands high + 5 if x = 1 and hour = 0; stands 9 if x = 0; stands 20 if y = 1");
        r.force(0);
        due("look(1)", r.look(1), 2);
        due("look(0)", r.look(0), 0);
        MercuryPost s = slide();
        s.spill(0, 0);
        s.spill(1, 5);
        s.spill(2, 6);
        s.spill(3, 1);
        s.split(3, 3);
        due("look(1): two on 0, then two on 1", s.look(1), 2);
        MercuryPost t = begin("look when drops part");
        Checks.law(t, "stands 20 - hour * 0 - x if hour > 0; holds if hour < 2; stands 0 - 0 if many > 1 and hour > 2");
        t.force(0);
        t.spill(0, 0);
        t.spill(1, 1);
        t.split(1, 3);
        due("look(1): joined ones stay so", t.look(1), 2);
        t.spill(3, 24);
        t.seen(0, 24);
        due("canBe()", t.canBe(), 8);
        due("look(1): those that can be alone", t.look(1), 1);
        MercuryPost u = begin("look ahead of a joint");
        u.raise(12, 3);
        u.raise(11, 2);
        u.raise(10, 1);
        u.raise(5, 1);
        u.door(10, 1);
        u.raise(16, 9);
        u.raise(6, 9);
        u.raise(17, 9);
        u.raise(13, 9);
        u.raise(7, 9);
        u.spill(0, 12);
        u.spill(1, 11);
        u.spill(2, 10);
        u.spill(3, 10);
        due("look(0): two at the door, later three, four", u.look(0), 0);
        due("look(1)", u.look(1), 2);
        u.seen(30, 10);
        due("canBe(): READ there ever after", u.canBe(), 15);
        for (int n = 0; n < 5; n++) {
            u.pass();
        }
        u.forget();
        u.seen(0, 10);
        due("canBe(): READ", u.canBe(), 15);
        due("look(1)", u.look(1), 4);
        MercuryPost v = begin("look: later is better");
        Checks.law(v, "holds if hour = 0; stands 9 - x");
        v.force(0);
        v.spill(0, 4);
        v.spill(1, 4);
        v.spill(2, 3);
        due("look(1)", v.look(1), 2);
    }

    /** Letters that are on one cell part only if one of them is READ there and the other one is not. */
    private void lookLater() {
        MercuryPost p = begin("look when one was read where the other one runs");
        p.door(12, 1);
        p.spill(0, 12);
        p.pass();
        p.door(12, 0);
        p.raise(12, 3);
        p.raise(13, 2);
        p.raise(14, 1);
        p.spill(1, 12);
        p.raise(17, 5);
        p.raise(7, 5);
        p.raise(11, 5);
        due("look(0)", p.look(0), 1);
        due("look(1)", p.look(1), 1);
        Checks.law(p, "holds if hour < 30");
        p.force(0);
        due("look(0): at the last hour", p.look(0), 30);
        due("look(1)", p.look(1), 1);
        p.terms(0, 0);
        due("look(0): beyond the last hour", p.look(0), 0);
        due("look(1)", p.look(1), 2);
        p.seen(30, 12);
        due("canBe()", p.canBe(), 3);
        p.terms(0, 1);
        due("canBe()", p.canBe(), 1);
        due("look(0): one alone", p.look(0), 0);
        due("look(1)", p.look(1), 1);
    }

    // 35
    private void few() {
        MercuryPost p = begin("few");
        due("few(1, 0)", p.few(1, 0), 1000000000000L);
        due("few(20, 0)", p.few(20, 0), 1000000000000L);
        due("few(1, 12): cut each time", p.few(1, 12), 282429536481L);
        due("few(1, 13)", p.few(1, 13), 254186582832L);
        due("few(20, 99)", p.few(20, 99), byTable(20, 99, 1));
        due("few(3, 50)", p.few(3, 50), byTable(3, 50, 1));
        due("few(0, 1)", p.few(0, 1), -1);
        due("few(21, 1)", p.few(21, 1), -1);
        due("few(-1, 1)", p.few(-1, 1), -1);
        due("few(1, -1)", p.few(1, -1), -1);
        due("few(1, 100)", p.few(1, 100), -1);
        due("few(far, low)", p.few(FAR, LOW), -1);
        for (int cold = 0; cold <= 10; cold++) {
            p.terms(1, cold);
            for (int k = 1; k <= 20; k += 3) {
                due("few(" + k + ", 17) at " + cold, p.few(k, 17), byTable(k, 17, cold));
            }
        }
    }

    private static long byTable(int k, int n, int cold) {
        long[][] table = new long[n + 1][n + 2];
        table[0][0] = 1000000000000L;
        for (int drop = 0; drop < n; drop++) {
            for (int did = 0; did <= drop; did++) {
                table[drop + 1][did] += table[drop][did] * (10 - cold) / 10;
                table[drop + 1][did + 1] += table[drop][did] * cold / 10;
            }
        }
        long all = 0;
        for (int did = 0; did < k && did <= n; did++) {
            all += table[n][did];
        }
        return all;
    }

    // 36
    private void compare() {
        MercuryPost p = slide();
        at = "compare";
        Checks.law(p, "stands 9 - high");
        Checks.law(p, "holds");
        due("compare(NONE, 2)", p.compare(-1, 2), 3);
        due("compare(0, 2)", p.compare(0, 2), 7);
        due("compare(1, 2)", p.compare(1, 2), 2);
        due("compare(2, 2)", p.compare(2, 2), -1);
        due("compare(-2, 2)", p.compare(-2, 2), -1);
        due("compare(0, 25)", p.compare(0, 25), -1);
        due("compare(0, -1)", p.compare(0, -1), -1);
        p.force(1);
        due("compare(NONE, 2): none in force's place", p.compare(-1, 2), 3);
        due("count(12)", p.count(12), 1);
        due("compare(0, 4): a door", p.compare(0, 4), 4);
    }

    // 37, 38
    private void days() {
        MercuryPost p = begin("days");
        due("days(5, 0)", p.days(5, 0), -1);
        due("days(5, 61)", p.days(5, 61), -1);
        due("days(-1, 1)", p.days(-1, 1), -1);
        due("days(1000001, 1)", p.days(1000001, 1), -1);
        due("drawn(0, 0): ahead of any", p.drawn(0, 0), -1);
        due("status()", p.status(), -1);
        p.door(12, 1);
        for (int seed : new int[] {0, 1, 2, 77, 4242, 123456, 999999, 1000000}) {
            for (int n : new int[] {1, 2, 7, 60}) {
                daysByHand(p, seed, n);
            }
        }
        due("letter(0, 0): on paper", p.letter(0, 0), 0);
        due("count(13)", p.count(13), 0);
        p.spill(3, 7);
        due("drawn(): the latest, not now", p.drawn(3, 0), drawnByHand(1000000, 60)[3]);
        p.days(0, 1000);
        due("drawn() behind days() that were REFUSED", p.drawn(3, 0), drawnByHand(1000000, 60)[3]);
        due("drawn(8, 0)", p.drawn(8, 0), -1);
        due("drawn(-1, 0)", p.drawn(-1, 0), -1);
        due("drawn(0, 3)", p.drawn(0, 3), -1);
        due("drawn(0, -1)", p.drawn(0, -1), -1);
        MercuryPost q = begin("days at the last hour");
        q.terms(0, 999);
        for (int seed = 0; seed < 20; seed++) {
            q.days(seed, 60);
            int in = 0;
            for (int l = 0; l < 8; l++) {
                in += q.drawn(l, 0);
            }
            due("days(" + seed + ", 60): no letter is spilt", in, 0);
        }
        q.terms(0, 998);
        q.door(12, 1);
        int spilt = 0;
        for (int seed = 0; seed < 20; seed++) {
            q.days(seed, 60);
            for (int l = 0; l < 8; l++) {
                spilt = Math.max(spilt, q.drawn(l, 2));
                due("drawn(): one hour alone", q.drawn(l, 2) < 999 ? 1 : 0, 1);
            }
        }
        at = "days";
        p.terms(0, 999);
        due("days(5, 60): no hour is left", p.days(5, 60), 0);
        due("drawn(3, 0)", p.drawn(3, 0), 1);
        due("drawn(3, 1)", p.drawn(3, 1), 7);
        due("drawn(0, 0)", p.drawn(0, 0), 0);
    }

    /** In a flat yard nothing runs: what a letter is, where, when read, from the draws alone. */
    private static int[] drawnByHand(int seed, int n) {
        int[] told = new int[24];
        java.util.Arrays.fill(told, 8, 24, -1);
        long s = seed;
        for (int hour = 0; hour < n; hour++) {
            s = (s * 1103 + 12345) % 1000003;
            int letter = (int) (s % 8);
            s = (s * 1103 + 12345) % 1000003;
            int second = (int) (s % 25);
            s = (s * 1103 + 12345) % 1000003;
            int third = (int) (s % 4);
            if (third < 2 && told[letter] == 0) {
                told[letter] = 1;
                told[8 + letter] = second;
            } else if (third == 2 && told[letter] == 1) {
                int x = told[8 + letter] % 5 + new int[] {0, 1, 0, -1}[second % 4];
                int y = told[8 + letter] / 5 + new int[] {1, 0, -1, 0}[second % 4];
                told[8 + letter] = x < 0 || x > 4 || y < 0 || y > 4 ? told[8 + letter] : y * 5 + x;
            }
            for (int l = 0; l < 8; l++) {
                if (told[l] == 1 && told[8 + l] == 12) {
                    told[l] = 2;
                    told[16 + l] = hour;
                }
            }
        }
        return told;
    }

    private void daysByHand(MercuryPost p, int seed, int n) {
        int[] told = drawnByHand(seed, n);
        int read = 0;
        for (int l = 0; l < 8; l++) {
            read += told[l] == 2 ? 1 : 0;
        }
        due("days(" + seed + ", " + n + ")", p.days(seed, n), read);
        for (int l = 0; l < 8; l += n == 60 ? 1 : 5) {
            for (int what = 0; what < 3; what++) {
                due("drawn(" + l + ", " + what + ") of " + seed, p.drawn(l, what), told[what * 8 + l]);
            }
        }
    }

    // 39, 40
    private void images() {
        MercuryPost p = slide();
        at = "images";
        due("image(-1)", p.image(-1), -1);
        due("image(2)", p.image(2), -1);
        due("back(-1)", p.back(-1), -1);
        due("back(2)", p.back(2), -1);
        due("back(1)", p.back(1), -2);
        due("status()", p.status(), -2);
        p.spill(0, 1);
        p.seen(3, 4);
        p.terms(1, 5);
        p.terms(2, 6);
        Checks.law(p, "stands x");
        p.force(0);
        p.raise(6, 1);
        due("image(0)", p.image(0), 0);
        due("undo() behind image()", p.undo(), 1);
        p.raise(6, 2);
        p.spill(1, 1);
        p.pass();
        p.seen(4, 4);
        p.door(1, 1);
        p.terms(1, 7);
        p.terms(2, 8);
        Checks.law(p, "stands y");
        p.force(1);
        p.days(9, 9);
        int drawn = p.drawn(0, 1);
        Checks.law(p, "stands [");
        Checks.row(p, 0, 1, 0, 7);
        Checks.feed(p, "stands 1;");
        due("image(1)", p.image(1), 0);
        int refusedThen = p.count(11);
        due("back(0)", p.back(0), 0);
        due("count(0)", p.count(0), 1 << 4 | 1 << 20);
        due("count(1)", p.count(1), 7);
        due("letter(0, 1)", p.letter(0, 1), 1);
        due("cell(6, 0)", p.cell(6, 0), 1);
        due("cell(0, 0)", p.cell(0, 0), 8);
        due("count(3)", p.count(3), 1);
        due("count(4)", p.count(4), 1);
        due("count(5)", p.count(5), 0);
        due("count(6): the tape stays", p.count(6), 9);
        due("count(11): images do not keep that", p.count(11), refusedThen);
        due("count(12)", p.count(12), 0);
        due("count(13)", p.count(13), 0);
        due("count(14)", p.count(14), 5);
        due("count(15)", p.count(15), 6);
        due("fault() stays", p.fault(), 8);
        due("beads() stay", p.beads(), 1);
        due("drawn() stays", p.drawn(0, 1), drawn);
        due("canBe()", p.canBe(), 0);
        p.end(0);
        due("a new law in the other one's place", Checks.law(p, "stands 77"), 1);
        due("back(1)", p.back(1), 0);
        due("count(4)", p.count(4), 2);
        due("count(12)", p.count(12), 1);
        due("cell(17, 3): the law that was kept", p.cell(17, 3), 3);
        due("count(13)", p.count(13), 1);
        due("count(3)", p.count(3), 2);
        due("back(0), once more", p.back(0), 0);
        due("cell(17, 3)", p.cell(17, 3), 2);
        p.image(1);
        p.raise(6, 9);
        due("back(1): kept anew", p.back(1), 0);
        due("cell(6, 0)", p.cell(6, 0), 1);
        due("stopped() stays", p.stopped(), -1);
        due("orders()", Checks.orders(p, "pass; spill 0 at 0"), -3);
        p.back(0);
        due("stopped() stays", p.stopped(), 1);
    }

    // 39, 40: laws, what was SEEN are as they were, whatever came in their place
    private void imagesOfLaws() {
        MercuryPost p = begin("images of laws");
        p.raise(12, 4);
        p.raise(7, 2);
        Checks.law(p, "holds if x = 2 and y = 1; stands 3 * high + 1 if high > 3; stands 50 - x if y = 0");
        Checks.law(p, "stands 9");
        p.force(0);
        p.seen(1, 12);
        p.seen(2, 7);
        p.image(0);
        Checks.orders(p, "raise [1 + 2] * [3 + 1] to 1 + 1 + 1 if 1 = 1 or 2 = 2; pass times 20 if hour < 2");
        due("orders() of less", Checks.orders(p, "pass"), 1);
        due("orders() of less", Checks.orders(p, "pass;pass if hour > 0"), 2);
        p.forget();
        p.seen(5, 5);
        p.image(1);
        for (int round = 0; round < 2; round++) {
            p.back(0);
            due("cell(7, 4)", p.cell(7, 4), 1);
            due("cell(12, 4)", p.cell(12, 4), 0);
            due("cell(12, 3)", p.cell(12, 3), 13);
            due("cell(7, 3)", p.cell(7, 3), 2);
            due("cell(4, 3)", p.cell(4, 3), 46);
            p.spill(0, 12);
            due("canBe(): seen at 12, at 7", p.canBe(), 0);
            p.forget();
            p.seen(1, 17);
            due("canBe()", p.canBe(), 1);
        }
        MercuryPost q = begin("images: a law of its own each");
        q.image(0);
        Checks.law(q, "stands 1 + 1 + 1 if x = 0 or y = 0; stands 5 if x = 4; holds if y = 4 and not x = 2");
        q.force(0);
        q.spill(0, 8);
        q.seen(0, 8);
        q.seen(1, 8);
        q.image(1);
        q.back(0);
        Checks.law(q, "holds");
        q.force(0);
        q.seen(9, 9);
        due("cell(0, 3)", q.cell(0, 3), 0);
        due("cell(0, 4)", q.cell(0, 4), 1);
        q.image(0);
        q.back(1);
        due("cell(0, 3)", q.cell(0, 3), 3);
        due("cell(4, 3)", q.cell(4, 3), 5);
        due("cell(13, 3): its tests, too", q.cell(13, 3), 0);
        due("cell(24, 4)", q.cell(24, 4), 1);
        due("cell(22, 4)", q.cell(22, 4), 0);
        due("cell(0, 4)", q.cell(0, 4), 0);
        due("canBe()", q.canBe(), 1);
        q.back(0);
        due("cell(4, 3)", q.cell(4, 3), 0);
        due("cell(4, 4)", q.cell(4, 4), 1);
        due("count(3)", q.count(3), 1);
        due("count(4)", q.count(4), 1);
        MercuryPost r = begin("images: when it was seen");
        r.raise(12, 1);
        r.spill(0, 12);
        r.seen(1, 17);
        r.image(0);
        r.forget();
        r.seen(0, 17);
        due("canBe()", r.canBe(), 0);
        r.image(1);
        r.back(0);
        due("canBe(): seen an hour on", r.canBe(), 1);
        r.back(1);
        due("canBe(): seen now", r.canBe(), 0);
    }

    // 10, 11: no text lives on what was read ahead of it
    private void textsOneBehindAnother() {
        MercuryPost p = begin("texts");
        String sum = "1 + 2 + 3 + 4 + 5 + 6 + 7 + 8 + 9 - 40";
        for (int n = 0; n < 100; n++) {
            due("orders " + n, Checks.orders(p, "raise " + sum + " to " + (n % 8 + 1) + "; pass if " + sum + " = 5"), 2);
            due("cell(5, 0)", p.cell(5, 0), n % 8 + 1);
        }
        for (int n = 0; n < 100; n++) {
            due("law that can't be read " + n, Checks.law(p, "stands " + sum + " + " + sum + " + "), -6);
        }
        due("law", Checks.law(p, "stands " + sum + " + high if " + sum + " = 5"), 0);
        p.force(0);
        due("cell(5, 3)", p.cell(5, 3), 9);
    }

    // 41
    private void counts() {
        MercuryPost p = begin("count");
        p.door(0, 1);
        p.door(24, 1);
        p.spill(0, 0);
        p.spill(1, 1);
        p.pass();
        p.seen(0, 0);
        Checks.law(p, "holds");
        p.feed(0, 0, 0, 0, 0);
        due("count(0)", p.count(0), 1 << 24 | 1);
        due("count(1)", p.count(1), 6);
        due("count(2)", p.count(2), 1);
        due("count(3)", p.count(3), 1);
        due("count(4)", p.count(4), 1);
        due("count(5)", p.count(5), 3);
        due("count(6)", p.count(6), 20);
        p.door(-1, 0);
        p.spill(-1, 0);
        p.force(3);
        p.back(0);
        p.back(1);
        p.spill(0, 0);
        p.raise(0, 0);
        p.split(0, 0);
        p.split(7, 0);
        for (int n = 0; n < 10; n++) {
            p.seen(0, 0);
        }
        p.law();
        p.law();
        p.row();
        p.orders();
        p.row();
        p.orders();
        due("count(7)", p.count(7), 2);
        due("count(8)", p.count(8), 3);
        due("count(9)", p.count(9), 4);
        due("count(10)", p.count(10), 5);
        due("count(11)", p.count(11), 6);
        p.cell(-1, 0);
        p.letter(-1, 0);
        p.feed(0, 0, 0, 0, 0);
        p.end(-1);
        p.later(-1, 0);
        p.compare(9, 9);
        p.drawn(-1, -1);
        due("count(7): NONE is not REFUSED", p.count(7), 2);
        due("count(-1)", p.count(-1), -1);
        due("count(16)", p.count(16), -1);
        due("count(far)", p.count(FAR), -1);
        due("count(low)", p.count(LOW), -1);
    }

    // 42
    private void statusOfEach() {
        MercuryPost p = begin("status");
        for (int kind = 0; kind < 15; kind++) {
            int code = refusedCall(p, kind);
            due("status() behind refusal " + kind, p.status(), code);
            p.cell(99, 0);
            p.forget();
            p.end(99);
            p.few(0, 0);
            due("status() stays " + kind, p.status(), code);
            grantedCall(p, kind);
            due("status() behind answer " + kind, p.status(), 0);
        }
    }

    private static int refusedCall(MercuryPost p, int kind) {
        switch (kind) {
            case 0: return p.door(99, 0);
            case 1: return p.terms(9, 9);
            case 2: return p.row();
            case 3: return p.law();
            case 4: return p.orders();
            case 5: return p.force(5);
            case 6: return p.spill(0, 99);
            case 7: return p.raise(0, 99);
            case 8: return p.split(0, 99);
            case 9:
                p.terms(0, 999);
                return p.pass();
            case 10:
                p.terms(0, 0);
                return p.undo();
            case 11: return p.seen(99, 0);
            case 12: return p.days(0, 0);
            case 13: return p.image(9);
            default: return p.back(9);
        }
    }

    private static void grantedCall(MercuryPost p, int kind) {
        switch (kind) {
            case 0: p.door(0, 0); break;
            case 1: p.terms(0, 0); break;
            case 2: Checks.row(p, 0, 0, 0); break;
            case 3: Checks.law(p, "holds"); break;
            case 4: Checks.orders(p, "pass"); break;
            case 5: p.force(-1); break;
            case 6: p.spill(0, 0); break;
            case 7: p.raise(0, 9); break;
            case 8: p.split(0, 0); break;
            case 9:
                p.terms(0, 998);
                p.pass();
                break;
            case 10:
                p.raise(0, 3);
                p.undo();
                break;
            case 11: p.seen(0, 0); break;
            case 12: p.days(0, 1); break;
            case 13: p.image(0); break;
            default: p.back(0);
        }
    }
}
