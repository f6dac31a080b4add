import java.util.ArrayList;
import java.util.List;

/**
 * What a call leaves as it was: calls that only ask leave everything, status() too; a call that is
 * REFUSED leaves everything but status(), the count of its code, and a tape that was read. Two
 * objects are made alike, one of them gets the call, and all that can be asked is asked of both.
 */
public final class NothingElseTest {
    private static final int FAR = 2147483647;
    private static final int LOW = -2147483648;
    /** Places of what may be otherwise in what all() answers. */
    private static final int STATUS = 0;
    private static final int FAULT = 1;
    private static final int STOPPED = 2;
    private static final int COUNT = 4;
    private static final int TAPE = COUNT + 6;

    private final Checks checks = new Checks("NothingElseTest");

    private NothingElseTest() {
    }

    public static void main(String[] args) {
        NothingElseTest t = new NothingElseTest();
        t.askingLeavesAll();
        t.refusedLeavesAll();
        t.fullLeavesAll();
        t.textsLeaveAll();
        t.checks.end();
    }

    /** Some of everything; three bytes on the tape. */
    private static MercuryPost some() {
        MercuryPost p = new MercuryPost();
        p.raise(12, 7);
        p.raise(11, 4);
        p.raise(10, 2);
        p.raise(7, 6);
        p.raise(17, 6);
        p.raise(13, 6);
        p.door(10, 1);
        p.spill(0, 10);
        p.spill(1, 12);
        p.pass();
        Checks.law(p, "stands high * 2 + many; holds if x = 4");
        Checks.law(p, "stands 9 - high");
        p.force(0);
        p.terms(1, 4);
        p.terms(2, 3);
        p.seen(1, 10);
        p.seen(2, 10);
        p.days(9, 9);
        p.image(0);
        Checks.row(p, 24, 3, 0, 99);
        Checks.orders(p, "pass; split 7 by 0");
        p.spill(2, 12);
        p.raise(24, 5);
        p.split(2, 1);
        p.pass();
        Checks.feed(p, "hol");
        return p;
    }

    /** As some(), but the hour is the last one, nothing can be undone, all is full. */
    private static MercuryPost full() {
        MercuryPost p = some();
        p.end(0);
        for (int n = 0; n < 4; n++) {
            Checks.law(p, "holds if y = " + n);
            p.seen(3 * n, n);
        }
        p.terms(0, 999);
        for (int n = 0; n < 20; n++) {
            p.feed(FAR, n, 0, LOW, 7);
        }
        return p;
    }

    /** All that can be asked, at last by undoing, by reading the tape, by going back. */
    private static List<Long> all(MercuryPost p) {
        List<Long> all = new ArrayList<>();
        all.add((long) p.status());
        all.add((long) p.fault());
        all.add((long) p.stopped());
        all.add((long) p.beads());
        for (int what = 0; what < 16; what++) {
            all.add((long) p.count(what));
        }
        cellsAndLetters(p, all);
        for (int letter = 0; letter < 8; letter++) {
            for (int what = 0; what < 3; what++) {
                all.add((long) p.drawn(letter, what));
            }
        }
        all.add((long) p.canBe());
        all.add((long) p.look(0));
        all.add((long) p.compare(0, 12));
        all.add((long) p.compare(1, 12));
        for (int undone = p.count(5); undone > 0; undone--) {
            all.add((long) p.undo());
            all.add((long) p.count(13));
            all.add((long) p.count(1));
            all.add((long) p.cell(24, 0));
            all.add((long) p.letter(2, 1));
        }
        if (p.back(0) == 0) {
            cellsAndLetters(p, all);
        }
        all.add((long) p.back(1));
        return all;
    }

    private static void cellsAndLetters(MercuryPost p, List<Long> all) {
        for (int cell = 0; cell < 25; cell++) {
            all.add((long) p.cell(cell, 0));
            all.add((long) p.cell(cell, 3));
            all.add((long) p.cell(cell, 4));
        }
        for (int letter = 0; letter < 8; letter++) {
            for (int what = 0; what < 3; what++) {
                all.add((long) p.letter(letter, what));
            }
        }
    }

    private void alike(String what, List<Long> got, List<Long> want) {
        checks.due(what + ": so much", got.size(), want.size());
        for (int i = 0; i < Math.min(got.size(), want.size()); i++) {
            checks.due(what + ": at " + i, got.get(i), want.get(i));
        }
    }

    // ------------------------------------------------------------------ calls that only ask

    private static final int ASKS = 27;

    private static void ask(MercuryPost p, int kind, int a, int b) {
        switch (kind) {
            case 0: p.cell(a, b); break;
            case 1: p.letter(a, b); break;
            case 2: p.beads(); break;
            case 3: p.fault(); break;
            case 4: p.stopped(); break;
            case 5: p.later(a, b); break;
            case 6: p.later(1, 60); break;
            case 7: p.readWith(a); break;
            case 8: p.run(a, b); break;
            case 9: p.basin(a); break;
            case 10: p.meeting(a, b); break;
            case 11: p.delay(a, b); break;
            case 12: p.apart(a, b); break;
            case 13: p.kerbs(a, b, 0); break;
            case 14: p.kerbs(12, 10, b); break;
            case 15: p.springs(); break;
            case 16: p.pools(); break;
            case 17: p.longest(b); break;
            case 18: p.canBe(); break;
            case 19: p.look(b); break;
            case 20: p.few(a, b); break;
            case 21: p.compare(b, a); break;
            case 22: p.drawn(a, b); break;
            case 23: p.count(a); break;
            case 24: p.status(); break;
            case 25: p.end(a < 3 ? -1 : 401); break;
            default: p.end(p.count(6));
        }
    }

    private void askingLeavesAll() {
        int[][] numbers = {{0, 0}, {1, 1}, {2, 2}, {12, 10}, {12, -1}, {24, 30}, {25, 61}, {-1, -2}, {FAR, LOW}, {LOW, FAR}};
        List<Long> some = all(some());
        List<Long> full = all(full());
        for (int kind = 0; kind < ASKS; kind++) {
            for (int[] n : numbers) {
                String what = "asked, kind " + kind + " of " + n[0] + ", " + n[1];
                MercuryPost p = some();
                ask(p, kind, n[0], n[1]);
                alike(what, all(p), some);
                p = full();
                ask(p, kind, n[0], n[1]);
                alike(what + " (full)", all(p), full);
            }
        }
        MercuryPost p = full();
        p.feed(0, 0, 0, 0, 0);
        alike("feed beyond", all(p), full);
        checks.due("the tape as it was", p.row(), full().row());
    }

    // ------------------------------------------------------------------ calls that are REFUSED

    private static final int REFUSED = 31;

    private static int refused(MercuryPost p, int kind) {
        switch (kind) {
            case 0: return p.door(25, 1);
            case 1: return p.door(3, 2);
            case 2: return p.terms(0, 1000);
            case 3: return p.terms(1, 11);
            case 4: return p.terms(2, 10);
            case 5: return p.terms(3, 0);
            case 6: return p.force(6);
            case 7: return p.force(-2);
            case 8: return p.spill(8, 0);
            case 9: return p.spill(3, 25);
            case 10: return p.spill(0, 0);
            case 11: return p.spill(1, 0);
            case 12: return p.raise(25, 0);
            case 13: return p.raise(3, 10);
            case 14: return p.raise(12, 7);
            case 15: return p.split(8, 0);
            case 16: return p.split(1, 4);
            case 17: return p.split(0, 0);
            case 18: return p.split(3, 0);
            case 19: return p.seen(31, 0);
            case 20: return p.seen(0, 25);
            case 21: return p.days(1000001, 1);
            case 22: return p.days(0, 0);
            case 23: return p.days(0, 61);
            case 24: return p.image(2);
            case 25: return p.image(-1);
            case 26: return p.back(2);
            case 27: return p.back(-1);
            case 28: return p.back(1);
            case 29: return p.terms(-1, 0);
            default: return p.raise(-1, 3);
        }
    }

    private static final int[] CODES = {-1, -1, -1, -1, -1, -1, -2, -2, -1, -1, -3, -3, -1, -1, -3, -1, -1, -3, -3,
        -1, -1, -1, -1, -1, -1, -1, -1, -1, -2, -1, -1};

    /** What is due behind a call that was REFUSED: nothing else. */
    private static List<Long> with(List<Long> all, int code) {
        List<Long> due = new ArrayList<>(all);
        due.set(STATUS, (long) code);
        int place = COUNT + (code >= -3 ? 6 - code : 5 - code);
        due.set(place, due.get(place) + 1);
        return due;
    }

    private void refusedLeavesAll() {
        List<Long> some = all(some());
        List<Long> full = all(full());
        for (int kind = 0; kind < REFUSED; kind++) {
            MercuryPost p = some();
            checks.due("refused, kind " + kind, refused(p, kind), CODES[kind]);
            alike("refused, kind " + kind, all(p), with(some, CODES[kind]));
            p = full();
            checks.due("refused, kind " + kind + " (full)", refused(p, kind), CODES[kind]);
            alike("refused, kind " + kind + " (full)", all(p), with(full, CODES[kind]));
        }
    }

    private void fullLeavesAll() {
        List<Long> full = all(full());
        MercuryPost p = full();
        checks.due("pass() at 999", p.pass(), -3);
        alike("pass() at 999", all(p), with(full, -3));
        p = full();
        checks.due("undo() of none", p.undo(), -3);
        alike("undo() of none", all(p), with(full, -3));
        p = full();
        checks.due("seen(), a seventh", p.seen(0, 0), -5);
        alike("seen(), a seventh", all(p), with(full, -5));
        p = full();
        checks.due("law(), a seventh", p.law(), -5);
        List<Long> due = with(full, -5);
        due.set(TAPE, 0L);
        alike("law(), a seventh", all(p), due);
    }

    // ------------------------------------------------------------------ texts that are REFUSED

    private void text(String text, boolean orders, int code, int fault, int stopped) {
        MercuryPost p = some();
        p.end(0);
        Checks.feed(p, text);
        String what = (orders ? "orders " : "law ") + text;
        List<Long> due = with(all(some()), code);
        checks.due(what, orders ? p.orders() : p.law(), code);
        due.set(TAPE, 0L);
        due.set(FAULT, (long) fault);
        if (orders) {
            due.set(STOPPED, (long) stopped);
        }
        alike(what, all(p), due);
    }

    private void textsLeaveAll() {
        text("", false, -6, 0, -1);
        text("  ", false, -6, 2, -1);
        text("stands 1; holds if x", false, -6, 20, -1);
        text("pass", false, -6, 0, -1);
        text("", true, -6, 0, -1);
        text("  ", true, -6, 2, -1);
        text("pass; raise 1 to 1;", true, -6, 19, -1);
        text("holds", true, -6, 0, -1);
        text("pass times 20; raise 24 to 1; spill 3 at 1; split 3 by 0; pass; spill 3 at 2", true, -3, -1, 5);
        text("raise 24 to 5", true, -3, -1, 0);
        text("raise 1 to 8 times 2", true, -3, -1, 0);
        text("pass; raise 1 / 0 to 8", true, -3, -1, 1);
        text("pass; pass; spill 9 at 25", true, -3, -1, 2);
        MercuryPost p = some();
        p.end(0);
        checks.due("row() of none", p.row(), -6);
        List<Long> due = with(all(some()), -6);
        due.set(TAPE, 0L);
        alike("row() of none", all(p), due);
    }
}
