import java.util.Random;

/** Runs of random calls, told to the program and to the model; seeds are fixed. Arguments: first seed, how many. */
public final class ModelTest {
    private static final int CALLS = 512;

    private final Random random;
    private final MercuryPost post = new MercuryPost();
    private final Model model = new Model();
    private final Checks checks;
    private final String[] laws;
    private int calls;

    private ModelTest(long seed, Checks checks) {
        this.random = new Random(seed);
        this.checks = checks;
        this.laws = new String[] {"stands high", "stands high * 2 + many", "stands 9 - high",
            "holds if many > 1", "stands x + y", "stands [x - 2] * [x - 2] + [y - 2] * [y - 2]",
            "stands high + hour % 3; holds if hour % 4 = 1", "stands high * 10 + x + 5 * y"};
    }

    public static void main(String[] args) {
        long first = args.length > 0 ? Long.parseLong(args[0]) : 1;
        long many = args.length > 1 ? Long.parseLong(args[1]) : 150;
        Checks checks = new Checks("ModelTest");
        for (long seed = first; seed < first + many; seed++) {
            new ModelTest(seed, checks).go(seed);
        }
        checks.end();
    }

    private void go(long seed) {
        if (random.nextInt(4) > 0) {
            row(false);
        }
        if (random.nextInt(2) > 0) {
            law(laws[random.nextInt(laws.length)]);
            same("force", post.force(0), model.force(0));
        }
        while (calls < CALLS - 100) {
            step();
            same("status " + seed, post.status(), model.status());
        }
        for (int letter = 0; letter < 8; letter++) {
            for (int what = 0; what < 3; what++) {
                same("letter", post.letter(letter, what), model.letter(letter, what));
            }
        }
        for (int cell = 0; cell < 25; cell++) {
            same("cell", post.cell(cell, 0), model.cell(cell, 0));
        }
        for (int what = -1; what < 17; what++) {
            same("count " + what, post.count(what), model.count(what));
        }
        same("fault", post.fault(), model.fault());
        same("stopped", post.stopped(), model.stopped());
        same("beads", post.beads(), model.beads());
    }

    private void same(String call, long got, long want) {
        calls++;
        checks.due("call " + calls + ", " + call, got, want);
    }

    /** Mostly below a bound, at times just beyond, or far. */
    private int upTo(int bound) {
        int kind = random.nextInt(40);
        return kind == 0 ? -1 : kind == 1 ? bound : kind == 2 ? random.nextInt() : random.nextInt(bound);
    }

    private void feed(String text) {
        int had = post.count(6);
        same("tape", had, model.count(6));
        for (int from = 0; from < text.length(); from += 20) {
            int[] f = Checks.fives(text, from);
            same("feed", post.feed(f[0], f[1], f[2], f[3], f[4]), model.feed(f[0], f[1], f[2], f[3], f[4]));
        }
        same("end", post.end(had + text.length()), model.end(had + text.length()));
    }

    private void row(boolean wrong) {
        StringBuilder text = new StringBuilder();
        for (int cell = 0; cell < 25; cell++) {
            if (wrong && random.nextInt(3) > 0) {
                continue;
            }
            text.append((char) cell).append((char) random.nextInt(10)).append((char) (random.nextInt(6) / 5));
            if (wrong && random.nextInt(3) == 0) {
                text.setCharAt(random.nextInt(text.length()), (char) random.nextInt(256));
            }
        }
        if (wrong) {
            text.setLength(random.nextInt(text.length() + 1));
        }
        feed(text.toString());
        same("row", post.row(), model.row());
        same("beads", post.beads(), model.beads());
    }

    private void law(String text) {
        feed(text);
        same("law " + text, post.law(), model.law());
        same("fault of " + text, post.fault(), model.fault());
    }

    private void orders(String text) {
        feed(text);
        same("orders " + text, post.orders(), model.orders());
        same("fault of " + text, post.fault(), model.fault());
        same("stopped of " + text, post.stopped(), model.stopped());
    }

    // ------------------------------------------------------------------ random texts

    private String pick(String... of) {
        return of[random.nextInt(of.length)];
    }

    private String sum(boolean orders, int deep) {
        StringBuilder text = new StringBuilder(part(orders, deep));
        for (int n = random.nextInt(deep > 2 ? 1 : 3); n > 0; n--) {
            text.append(pick(" + ", "-", " * ", "/", " % ", "+", "*")).append(part(orders, deep));
        }
        return text.toString();
    }

    private String part(boolean orders, int deep) {
        int kind = random.nextInt(8);
        if (kind == 0 && deep < 9) {
            return "[" + sum(orders, deep + 1) + "]";
        }
        if (kind < 5) {
            return pick("0", "1", "2", "3", "5", "7", "12", "999", "1000", "0010", "" + random.nextInt(30));
        }
        if (!orders) {
            return pick("x", "y", "high", "many", "hour", "cold", "mood", "high");
        }
        return pick("hour", "done", "latest", "left", "read", "at " + random.nextInt(8), "high " + random.nextInt(25));
    }

    private String test(boolean orders, int deep) {
        StringBuilder text = new StringBuilder(plain(orders, deep));
        for (int n = random.nextInt(deep > 2 ? 1 : 3); n > 0; n--) {
            text.append(pick(" or ", " and ")).append(plain(orders, deep));
        }
        return text.toString();
    }

    private String plain(boolean orders, int deep) {
        int kind = random.nextInt(8);
        if (kind == 0) {
            return "not " + plain(orders, deep);
        }
        if (kind == 1 && deep < 9) {
            return "(" + test(orders, deep + 1) + ")";
        }
        return sum(orders, deep) + pick("<", " > ", " = ") + sum(orders, deep);
    }

    private String clauses(boolean orders) {
        StringBuilder text = new StringBuilder();
        int many = random.nextInt(8) == 0 ? 14 : 1 + random.nextInt(4);
        for (int n = 0; n < many; n++) {
            text.append(n > 0 ? pick(";", " ; ") : "");
            text.append(orders ? order(many > 5) : rule(many > 5));
        }
        if (random.nextInt(4) == 0) {
            spoil(text);
        }
        if (text.length() > 400) {
            text.setLength(400);
        }
        return text.toString();
    }

    private String rule(boolean small) {
        if (small) {
            return pick("holds", "stands y", "stands high/x", "holds if y=3", "stands 5 if x=1");
        }
        String verb = random.nextInt(3) == 0 ? "holds" : "stands " + sum(false, 0);
        return verb + (random.nextInt(2) == 0 ? " if " + test(false, 0) : "");
    }

    private String order(boolean small) {
        String verb = pick("pass", "spill " + small(8) + " at " + small(25), "raise " + small(25) + " to " + small(10),
            "split " + small(8) + " by " + small(4), "pass");
        if (!small && random.nextInt(4) == 0) {
            verb = pick("raise ", "spill ", "split ") + sum(true, 0) + pick(" to ", " at ", " by ") + sum(true, 0);
        }
        String times = random.nextInt(5) == 0 ? " times " + (1 + random.nextInt(20)) : "";
        String test = random.nextInt(3) == 0 && !small ? " if " + test(true, 0) : "";
        return verb + times + test;
    }

    private String small(int bound) {
        return random.nextInt(4) == 0 ? "done" : "" + random.nextInt(bound);
    }

    private void spoil(StringBuilder text) {
        int at = random.nextInt(text.length());
        if (random.nextInt(2) == 0) {
            text.deleteCharAt(at);
        } else {
            text.insert(at, pick(" ", "(", ")", "[", "]", ";", "if", " or ", " not ", "1001", "=", "" + (char) random.nextInt(256)));
        }
    }

    // ------------------------------------------------------------------ random calls

    private void step() {
        int kind = random.nextInt(44);
        if (kind < 16) {
            change(kind);
        } else {
            ask(kind);
        }
    }

    private void change(int kind) {
        int letter = upTo(8);
        int cell = upTo(25);
        int more = random.nextInt(100);
        if (kind < 3) {
            same("spill " + letter + " " + cell, post.spill(letter, cell), model.spill(letter, cell));
        } else if (kind == 3) {
            int high = upTo(10);
            same("raise", post.raise(cell, high), model.raise(cell, high));
        } else if (kind == 4) {
            int way = upTo(4);
            same("split", post.split(letter, way), model.split(letter, way));
        } else if (kind < 8) {
            same("pass", post.pass(), model.pass());
        } else if (kind < 10) {
            same("undo", post.undo(), model.undo());
        } else if (kind == 10 && more < 30) {
            int what = upTo(3);
            int value = more < 10 ? 990 + random.nextInt(12) : upTo(11);
            same("terms", post.terms(what, value), model.terms(what, value));
        } else if (kind == 11) {
            changeRarely(more, cell);
        } else if (kind == 12) {
            int n = more < 70 ? random.nextInt(4) : upTo(31);
            int at = more < 90 && letter >= 0 && letter < 8 ? Math.max(0, model.later(letter, n)) : cell;
            same("seen", post.seen(n, at), model.seen(n, at));
        } else if (kind == 13 && more < 50) {
            law(clauses(false));
        } else if (kind == 14) {
            orders(clauses(true));
        } else if (kind == 15) {
            int law = random.nextInt(8) - 2;
            same("force", post.force(law), model.force(law));
        }
    }

    private void changeRarely(int more, int cell) {
        if (more < 10) {
            row(true);
        } else if (more < 50) {
            int is = upTo(2);
            same("door", post.door(cell, is), model.door(cell, is));
        } else if (more < 65) {
            int k = upTo(2);
            same("image", post.image(k), model.image(k));
        } else if (more < 80) {
            int k = upTo(2);
            same("back", post.back(k), model.back(k));
        } else {
            same("forget", post.forget(), model.forget());
        }
    }

    private void ask(int kind) {
        int letter = upTo(8);
        int cell = upTo(25);
        int other = upTo(25);
        int what = upTo(3);
        switch (kind) {
            case 16:
            case 17:
                int of = upTo(6);
                same("cell " + cell + " " + of, post.cell(cell, of), model.cell(cell, of));
                break;
            case 18:
                same("letter", post.letter(letter, what), model.letter(letter, what));
                break;
            case 19:
            case 20:
                int n = upTo(61);
                same("later", post.later(letter, n), model.later(letter, n));
                break;
            case 21:
            case 22:
                same("readWith", post.readWith(letter), model.readWith(letter));
                break;
            case 23:
                int i = random.nextInt(12) - 2;
                same("run", post.run(cell, i), model.run(cell, i));
                break;
            case 24:
                same("basin", post.basin(cell), model.basin(cell));
                break;
            case 25:
                same("meeting", post.meeting(cell, other), model.meeting(cell, other));
                break;
            case 26:
            case 27:
                same("delay", post.delay(cell, other), model.delay(cell, other));
                break;
            case 28:
            case 29:
                int cells = random.nextInt() >>> 7 & random.nextInt() & (random.nextInt(2) == 0 ? random.nextInt() : -1);
                int k = random.nextInt(10) - 1;
                same("apart", post.apart(cells, k), model.apart(cells, k));
                break;
            default:
                askMore(kind, cell, other, letter);
        }
    }

    private void askMore(int kind, int cell, int other, int letter) {
        int what = upTo(2);
        switch (kind) {
            case 30:
            case 31:
                int door = random.nextInt(4) > 0 ? Math.max(0, Integer.numberOfTrailingZeros(model.count(0)) % 32) : other;
                same("kerbs " + cell + " " + door, post.kerbs(cell, door, what), model.kerbs(cell, door, what));
                break;
            case 32:
                same("springs", post.springs(), model.springs());
                break;
            case 33:
                same("pools", post.pools(), model.pools());
                break;
            case 34:
                same("longest", post.longest(what), model.longest(what));
                break;
            case 35:
            case 36:
                same("canBe", post.canBe(), model.canBe());
                break;
            case 37:
            case 38:
                same("look", post.look(what), model.look(what));
                break;
            case 39:
                int k = upTo(21);
                int n = upTo(100);
                same("few", post.few(k, n), model.few(k, n));
                break;
            case 40:
                int law = random.nextInt(8) - 2;
                same("compare", post.compare(law, cell), model.compare(law, cell));
                break;
            case 41:
                int seed = upTo(1000001);
                int days = upTo(61);
                same("days", post.days(seed, days), model.days(seed, days));
                break;
            case 42:
                int which = upTo(3);
                same("drawn", post.drawn(letter, which), model.drawn(letter, which));
                break;
            default:
                int of = random.nextInt(18) - 1;
                same("count " + of, post.count(of), model.count(of));
        }
    }
}
