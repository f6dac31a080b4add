import java.util.Random;

/**
 * Any calls with any numbers, more of them than an object is good for: none throws, and the same
 * calls on another object give the same answers.
 */
public final class AnyNumbersTest {
    private static final String[] WORDS = {"stands", "holds", "if", "or", "and", "not", "x", "y", "high", "many", "hour",
        "cold", "mood", "spill", "at", "raise", "to", "split", "by", "pass", "times", "done", "latest", "left", "read",
        "(", ")", "[", "]", ";", "+", "-", "*", "/", "%", "<", ">", "=", "0", "1", "2", "7", "24", "1000", "1001", "q"};

    private final Random random;
    private final MercuryPost one = new MercuryPost();
    private final MercuryPost other = new MercuryPost();

    private AnyNumbersTest(long seed) {
        this.random = new Random(seed);
    }

    public static void main(String[] args) {
        Checks checks = new Checks("AnyNumbersTest");
        for (long seed = 0; seed < 200; seed++) {
            AnyNumbersTest t = new AnyNumbersTest(seed);
            for (int n = 0; n < 1500; n++) {
                t.step(checks, "seed " + seed + ", call " + n);
            }
        }
        checks.end();
    }

    private void step(Checks checks, String what) {
        int[] a = {any(), any(), any(), any(), any()};
        if (random.nextInt(6) == 0) {
            text(random.nextInt(70));
        }
        int kind = random.nextInt(42);
        checks.due(what + ", kind " + kind, call(one, kind, a), call(other, kind, a));
    }

    private int any() {
        switch (random.nextInt(8)) {
            case 0: return random.nextInt();
            case 1: return random.nextBoolean() ? Integer.MAX_VALUE : Integer.MIN_VALUE;
            case 2: return random.nextInt(1100) - 50;
            case 3: return random.nextInt(70) - 5;
            case 4: return random.nextInt() & random.nextInt() & random.nextInt() & 33554431;
            default: return random.nextInt(28) - 2;
        }
    }

    private void text(int words) {
        StringBuilder text = new StringBuilder();
        for (int n = 0; n < words; n++) {
            text.append(WORDS[random.nextInt(WORDS.length)]).append(random.nextInt(4) == 0 ? "" : " ");
        }
        for (int from = 0; from < text.length(); from += 20) {
            int[] five = Checks.fives(text.toString(), from);
            one.feed(five[0], five[1], five[2], five[3], five[4]);
            other.feed(five[0], five[1], five[2], five[3], five[4]);
        }
    }

    private static long call(MercuryPost p, int kind, int[] a) {
        switch (kind) {
            case 0: return p.cell(a[0], a[1]);
            case 1: return p.door(a[0], a[2] > 9 ? a[1] & 1 : a[1]);
            case 2: return p.letter(a[0], a[1]);
            case 3: return p.terms(a[0], a[1]);
            case 4: return p.feed(a[0], a[1], a[2], a[3], a[4]);
            case 5: return p.end(a[0]);
            case 6: return p.row();
            case 7: return p.beads();
            case 8: return p.law();
            case 9: return p.orders();
            case 10: return p.fault();
            case 11: return p.stopped();
            case 12: return p.force(a[0]);
            case 13: return p.spill(a[0], a[1]);
            case 14: return p.raise(a[0], a[1]);
            case 15: return p.split(a[0], a[1]);
            case 16: return p.pass();
            case 17: return p.undo();
            case 18: return p.later(a[0], a[1]);
            case 19: return p.readWith(a[0]);
            default: return ask(p, kind, a);
        }
    }

    private static long ask(MercuryPost p, int kind, int[] a) {
        switch (kind) {
            case 20: return p.run(a[0], a[1]);
            case 21: return p.basin(a[0]);
            case 22: return p.meeting(a[0], a[1]);
            case 23: return p.delay(a[0], a[1]);
            case 24: return p.apart(a[0], a[1]);
            case 25: return p.kerbs(a[0], a[1], a[2]);
            case 26: return p.springs();
            case 27: return p.pools();
            case 28: return p.longest(a[0]);
            case 29: return p.seen(a[0], a[1]);
            case 30: return p.forget();
            case 31: return p.canBe();
            case 32: return p.look(a[0]);
            case 33: return p.few(a[0], a[1]);
            case 34: return p.compare(a[0], a[1]);
            case 35: return p.days(a[0], a[1]);
            case 36: return p.drawn(a[0], a[1]);
            case 37: return p.image(a[0]);
            case 38: return p.back(a[0]);
            case 39: return p.count(a[0]);
            default: return p.status();
        }
    }
}
