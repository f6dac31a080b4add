import java.util.ArrayList;
import java.util.HashMap;
import java.util.List;
import java.util.Map;

/** The document once more, in the plainest words: slow, and written apart from the program. */
final class Model {
    static final class Broken extends Exception {
        private static final long serialVersionUID = 1L;
    }

    static final class Fault extends Exception {
        private static final long serialVersionUID = 1L;
        final int place;

        Fault(int place) {
            this.place = place;
        }
    }

    interface Facts {
        long of(String word);
    }

    interface Sum {
        long in(Facts facts) throws Broken;
    }

    interface Test {
        boolean in(Facts facts) throws Broken;
    }

    static final class Clause {
        String verb;
        Sum first;
        Sum second;
        int times = 1;
        Test test;

        boolean isSo(Facts facts) {
            try {
                return test == null || test.in(facts);
            } catch (Broken e) {
                return false;
            }
        }
    }

    static final class Letter implements Cloneable {
        String state = "IN";
        int cell = -1;
        int hour = -1;

        Letter copy() {
            Letter l = new Letter();
            l.state = state;
            l.cell = cell;
            l.hour = hour;
            return l;
        }
    }

    static final class World {
        int[] high = new int[25];
        boolean[] door = new boolean[25];
        Letter[] letter = new Letter[8];
        int hour;
        int cold = 1;
        int mood;
        int force = -1;
        List<int[]> seen = new ArrayList<>();
        List<List<Clause>> laws = new ArrayList<>();

        World() {
            for (int i = 0; i < 8; i++) {
                letter[i] = new Letter();
            }
        }

        World copy() {
            World w = new World();
            w.high = high.clone();
            w.door = door.clone();
            for (int i = 0; i < 8; i++) {
                w.letter[i] = letter[i].copy();
            }
            w.hour = hour;
            w.cold = cold;
            w.mood = mood;
            w.force = force;
            w.seen = new ArrayList<>(seen);
            w.laws = new ArrayList<>(laws);
            return w;
        }

        List<Integer> on(int cell) {
            List<Integer> list = new ArrayList<>();
            for (int i = 0; i < 8; i++) {
                if (letter[i].state.equals("ON") && letter[i].cell == cell) {
                    list.add(i);
                }
            }
            return list;
        }

        int are(String state) {
            int n = 0;
            for (Letter l : letter) {
                n += l.state.equals(state) ? 1 : 0;
            }
            return n;
        }

        Facts lawFacts(int cell) {
            Map<String, Long> map = new HashMap<>();
            map.put("x", (long) (cell % 5));
            map.put("y", (long) (cell / 5));
            map.put("high", (long) high[cell]);
            map.put("many", (long) on(cell).size());
            map.put("hour", (long) hour);
            map.put("cold", (long) cold);
            map.put("mood", (long) mood);
            return map::get;
        }

        List<Clause> clauses() {
            return force < 0 ? new ArrayList<>() : laws.get(force);
        }

        int stands(int cell) {
            long told = high[cell];
            for (Clause c : clauses()) {
                if (c.verb.equals("stands") && c.isSo(lawFacts(cell))) {
                    try {
                        long sum = c.first.in(lawFacts(cell));
                        told = sum < 0 ? 0 : sum > 99 ? 99 : sum;
                    } catch (Broken e) {
                        continue;
                    }
                }
            }
            return (int) told;
        }

        boolean held(int cell) {
            for (Clause c : clauses()) {
                if (c.verb.equals("holds") && c.isSo(lawFacts(cell))) {
                    return true;
                }
            }
            return false;
        }

        static int beside(int cell, int way) {
            int x = cell % 5 + (way == 1 ? 1 : way == 3 ? -1 : 0);
            int y = cell / 5 + (way == 0 ? 1 : way == 2 ? -1 : 0);
            return x < 0 || x > 4 || y < 0 || y > 4 ? -1 : y * 5 + x;
        }

        int runsTo(int cell) {
            if (door[cell] || held(cell)) {
                return cell;
            }
            int best = -1;
            for (int way = 0; way < 4; way++) {
                int b = beside(cell, way);
                if (b >= 0 && (best < 0 || stands(b) < stands(best))) {
                    best = b;
                }
            }
            return stands(best) < stands(cell) ? best : cell;
        }

        int pass() {
            World before = copy();
            int read = 0;
            for (Letter l : letter) {
                if (!l.state.equals("ON")) {
                    continue;
                }
                if (before.door[l.cell]) {
                    l.state = "READ";
                    l.hour = before.hour;
                    read++;
                } else {
                    l.cell = before.runsTo(l.cell);
                }
            }
            hour++;
            return read;
        }

        World after(int hours) {
            World w = copy();
            for (int i = 0; i < hours; i++) {
                w.pass();
            }
            return w;
        }

        List<Integer> run(int cell) {
            List<Integer> cells = new ArrayList<>();
            cells.add(cell);
            while (runsTo(cell) != cell) {
                cell = runsTo(cell);
                cells.add(cell);
            }
            return cells;
        }

        /** Where a drop alone is so many hours behind its spilling; -1: it is not there (yet, any more). */
        int drop(List<Integer> run, int hours) {
            if (hours < 0) {
                return -1;
            }
            int last = run.get(run.size() - 1);
            if (hours < run.size()) {
                return run.get(hours);
            }
            return door[last] ? -1 : last;
        }

        boolean meet(int one, int other, int d) {
            List<Integer> a = run(one);
            List<Integer> b = run(other);
            for (int t = 0; t < 100; t++) {
                int at = drop(a, t);
                if (at >= 0 && at == drop(b, t - d)) {
                    return true;
                }
            }
            return false;
        }
    }

    // ------------------------------------------------------------------ texts

    private static final class Parser {
        private final String text;
        private final boolean orders;
        private final List<String> tokens = new ArrayList<>();
        private final List<Integer> places = new ArrayList<>();
        private int i;
        private int parts;

        Parser(String text, boolean orders) {
            this.text = text;
            this.orders = orders;
            int at = 0;
            while (at < text.length()) {
                int to = at;
                while (to < text.length() && text.charAt(to) >= 'a' && text.charAt(to) <= 'z') {
                    to++;
                }
                if (to == at) {
                    while (to < text.length() && text.charAt(to) >= '0' && text.charAt(to) <= '9') {
                        to++;
                    }
                }
                if (to == at) {
                    to++;
                }
                if (text.charAt(at) != ' ') {
                    tokens.add(text.substring(at, to));
                    places.add(at);
                }
                at = to;
            }
            tokens.add("");
            places.add(text.length());
        }

        private Fault fault() {
            return new Fault(places.get(i));
        }

        private boolean take(String token) {
            if (tokens.get(i).equals(token)) {
                i++;
                return true;
            }
            return false;
        }

        private void must(String token) throws Fault {
            if (!take(token)) {
                throw fault();
            }
        }

        private int number(int least, int most) throws Fault {
            String t = tokens.get(i);
            if (t.isEmpty() || t.charAt(0) < '0' || t.charAt(0) > '9') {
                throw fault();
            }
            java.math.BigInteger n = new java.math.BigInteger(t);
            if (n.compareTo(java.math.BigInteger.valueOf(least)) < 0
                    || n.compareTo(java.math.BigInteger.valueOf(most)) > 0) {
                throw fault();
            }
            i++;
            return n.intValue();
        }

        List<Clause> whole() throws Fault {
            List<Clause> list = new ArrayList<>();
            do {
                if (list.size() == 12) {
                    throw fault();
                }
                list.add(clause());
            } while (take(";"));
            if (!tokens.get(i).isEmpty()) {
                throw fault();
            }
            return list;
        }

        private Clause clause() throws Fault {
            Clause c = new Clause();
            c.verb = tokens.get(i);
            String[][] verbs = {{"spill", "at"}, {"raise", "to"}, {"split", "by"}};
            if (orders) {
                boolean known = take("pass");
                for (String[] verb : verbs) {
                    if (!known && take(verb[0])) {
                        known = true;
                        c.first = sum(0);
                        must(verb[1]);
                        c.second = sum(0);
                    }
                }
                if (!known) {
                    throw fault();
                }
                if (take("times")) {
                    c.times = number(1, 20);
                }
            } else if (take("stands")) {
                c.first = sum(0);
            } else {
                must("holds");
            }
            if (take("if")) {
                c.test = test(0);
            }
            return c;
        }

        private Test test(int deep) throws Fault {
            List<Test> all = new ArrayList<>();
            do {
                List<Test> both = new ArrayList<>();
                do {
                    both.add(plain(deep));
                } while (take("and"));
                all.add(f -> {
                    for (Test t : both) {
                        if (!t.in(f)) {
                            return false;
                        }
                    }
                    return true;
                });
            } while (take("or"));
            return f -> {
                for (Test t : all) {
                    if (t.in(f)) {
                        return true;
                    }
                }
                return false;
            };
        }

        private Test plain(int deep) throws Fault {
            if (take("not")) {
                Test t = plain(deep);
                return f -> !t.in(f);
            }
            if (tokens.get(i).equals("(")) {
                if (deep == 8) {
                    throw fault();
                }
                i++;
                Test t = test(deep + 1);
                must(")");
                return t;
            }
            Sum a = sum(deep);
            String sign = tokens.get(i);
            if (!sign.equals("<") && !sign.equals(">") && !sign.equals("=")) {
                throw fault();
            }
            i++;
            Sum b = sum(deep);
            return f -> {
                long left = a.in(f);
                long right = b.in(f);
                return sign.equals("<") ? left < right : sign.equals(">") ? left > right : left == right;
            };
        }

        private static long whole(long n) throws Broken {
            if (n > 1000000000L || n < -1000000000L) {
                throw new Broken();
            }
            return n;
        }

        private Sum sum(int deep) throws Fault {
            Sum left = term(deep);
            while (true) {
                Sum a = left;
                if (take("+")) {
                    Sum b = term(deep);
                    left = f -> whole(a.in(f) + b.in(f));
                } else if (take("-")) {
                    Sum b = term(deep);
                    left = f -> whole(a.in(f) - b.in(f));
                } else {
                    return left;
                }
            }
        }

        private Sum term(int deep) throws Fault {
            Sum left = part(deep);
            while (true) {
                Sum a = left;
                if (take("*")) {
                    Sum b = part(deep);
                    left = f -> whole(a.in(f) * b.in(f));
                } else if (take("/")) {
                    Sum b = part(deep);
                    left = f -> {
                        long n = a.in(f);
                        long by = b.in(f);
                        if (by == 0) {
                            throw new Broken();
                        }
                        return n / by;
                    };
                } else if (take("%")) {
                    Sum b = part(deep);
                    left = f -> {
                        long n = a.in(f);
                        long by = b.in(f);
                        if (by == 0) {
                            throw new Broken();
                        }
                        return n - n / by * by;
                    };
                } else {
                    return left;
                }
            }
        }

        private Sum part(int deep) throws Fault {
            String t = tokens.get(i);
            if (t.equals("[")) {
                if (deep == 8) {
                    throw fault();
                }
                i++;
                Sum s = sum(deep + 1);
                must("]");
                return s;
            }
            if (parts == 50) {
                throw fault();
            }
            parts++;
            if (!t.isEmpty() && t.charAt(0) >= '0' && t.charAt(0) <= '9') {
                long n = number(0, 1000);
                return f -> n;
            }
            String plain = orders ? " hour done latest left read " : " x y high many hour cold mood ";
            if (orders && (t.equals("at") || t.equals("high"))) {
                i++;
                int n = number(0, t.equals("at") ? 7 : 24);
                return f -> f.of(t + n);
            }
            if (t.isEmpty() || t.charAt(0) < 'a' || t.charAt(0) > 'z' || !plain.contains(" " + t + " ")) {
                throw fault();
            }
            i++;
            return f -> f.of(t);
        }
    }

    // ------------------------------------------------------------------ the post

    private World w = new World();
    private final StringBuilder tape = new StringBuilder();
    private List<World> undoWorlds = new ArrayList<>();
    private List<Integer> undoKinds = new ArrayList<>();
    private final World[] images = new World[2];
    private World daysWorld;
    private final int[] refused = new int[7];
    private int status;
    private int fault = -1;
    private int stopped = -1;
    private int beads;

    private int no(int code) {
        status = code;
        refused[-code]++;
        return code;
    }

    private int yes(int answer) {
        status = 0;
        return answer;
    }

    private static boolean in(int n, int least, int most) {
        return n >= least && n <= most;
    }

    private static boolean isCell(int c) {
        return in(c, 0, 24);
    }

    int cell(int c, int what) {
        if (!isCell(c)) {
            return -1;
        }
        switch (what) {
            case 0: return w.high[c];
            case 1: return w.door[c] ? 1 : 0;
            case 2:
                int bits = 0;
                for (int l : w.on(c)) {
                    bits += 1 << l;
                }
                return bits;
            case 3: return w.stands(c);
            case 4: return w.held(c) ? 1 : 0;
            case 5: return w.runsTo(c);
            default: return -1;
        }
    }

    int door(int c, int is) {
        if (!isCell(c) || !in(is, 0, 1)) {
            return no(-1);
        }
        int was = w.door[c] ? 1 : 0;
        w.door[c] = is == 1;
        return yes(was);
    }

    private static int tell(World w, int l, int what) {
        if (w == null || !in(l, 0, 7)) {
            return -1;
        }
        Letter letter = w.letter[l];
        return what == 0 ? List.of("IN", "ON", "READ").indexOf(letter.state)
                : what == 1 ? letter.cell : what == 2 ? letter.hour : -1;
    }

    int letter(int l, int what) {
        return tell(w, l, what);
    }

    private void clearUndo() {
        undoWorlds.clear();
        undoKinds.clear();
    }

    int terms(int what, int value) {
        if (what == 0 && in(value, 0, 999)) {
            int was = w.hour;
            w.hour = value;
            clearUndo();
            return yes(was);
        }
        if (what == 1 && in(value, 0, 10)) {
            int was = w.cold;
            w.cold = value;
            clearUndo();
            return yes(was);
        }
        if (what == 2 && in(value, 0, 9)) {
            int was = w.mood;
            w.mood = value;
            clearUndo();
            return yes(was);
        }
        return no(-1);
    }

    int feed(int a, int b, int c, int d, int e) {
        if (tape.length() > 380) {
            return -1;
        }
        for (int n : new int[] {a, b, c, d, e}) {
            tape.append((char) (n >>> 24)).append((char) (n >>> 16 & 255));
            tape.append((char) (n >>> 8 & 255)).append((char) (n & 255));
        }
        return tape.length();
    }

    int end(int n) {
        if (!in(n, 0, tape.length())) {
            return -1;
        }
        tape.setLength(n);
        return n;
    }

    int row() {
        if (tape.length() == 0) {
            return no(-6);
        }
        int told = 0;
        beads = 0;
        for (int i = 0; i < tape.length(); i += 3) {
            String three = tape.substring(i, Math.min(i + 3, tape.length()));
            if (three.length() == 3 && three.charAt(0) < 25 && three.charAt(1) < 10 && three.charAt(2) < 2) {
                told++;
                w.high[three.charAt(0)] = three.charAt(1);
                w.door[three.charAt(0)] = three.charAt(2) == 1;
            } else {
                beads++;
            }
        }
        tape.setLength(0);
        clearUndo();
        return yes(told);
    }

    int beads() {
        return beads;
    }

    private List<Clause> parse(boolean orders) {
        String text = tape.toString();
        tape.setLength(0);
        try {
            fault = -1;
            return new Parser(text, orders).whole();
        } catch (Fault f) {
            fault = f.place;
            return null;
        }
    }

    int law() {
        if (w.laws.size() == 6) {
            tape.setLength(0);
            return no(-5);
        }
        List<Clause> law = parse(false);
        if (law == null) {
            return no(-6);
        }
        w.laws.add(law);
        return yes(w.laws.size() - 1);
    }

    int orders() {
        stopped = -1;
        List<Clause> list = parse(true);
        if (list == null) {
            return no(-6);
        }
        World worldWas = w.copy();
        List<World> worldsWere = new ArrayList<>(undoWorlds);
        List<Integer> kindsWere = new ArrayList<>(undoKinds);
        long[] told = {0, -1};
        Facts facts = word -> word.equals("hour") ? w.hour : word.equals("done") ? told[0]
                : word.equals("latest") ? told[1] : word.equals("left") ? w.are("IN")
                : word.equals("read") ? w.are("READ")
                : word.startsWith("at") ? w.letter[Integer.parseInt(word.substring(2))].cell
                : w.high[Integer.parseInt(word.substring(4))];
        for (int c = 0; c < list.size(); c++) {
            Clause clause = list.get(c);
            for (int time = 0; time < clause.times; time++) {
                if (!clause.isSo(facts)) {
                    continue;
                }
                int got;
                try {
                    int a = clause.first == null ? 0 : (int) clause.first.in(facts);
                    int b = clause.second == null ? 0 : (int) clause.second.in(facts);
                    got = act(List.of("spill", "raise", "split", "pass").indexOf(clause.verb), a, b);
                } catch (Broken e) {
                    got = -3;
                }
                if (got < 0) {
                    w = worldWas;
                    undoWorlds = worldsWere;
                    undoKinds = kindsWere;
                    stopped = c;
                    return no(-3);
                }
                told[0]++;
                if (clause.verb.equals("pass")) {
                    told[1] = got;
                }
            }
        }
        return yes((int) told[0]);
    }

    int fault() {
        return fault;
    }

    int stopped() {
        return stopped;
    }

    int force(int law) {
        if (!in(law, -1, w.laws.size() - 1)) {
            return no(-2);
        }
        int was = w.force;
        w.force = law;
        return yes(was);
    }

    private int act(int kind, int a, int b) {
        World was = w.copy();
        int got = actOn(w, kind, a, b);
        if (got >= 0) {
            undoWorlds.add(was);
            undoKinds.add(kind);
            if (undoWorlds.size() > 16) {
                undoWorlds.remove(0);
                undoKinds.remove(0);
            }
        }
        return got;
    }

    private static int actOn(World w, int kind, int a, int b) {
        if (kind == 0) {
            if (!in(a, 0, 7) || !isCell(b)) {
                return -1;
            }
            if (!w.letter[a].state.equals("IN")) {
                return -3;
            }
            w.letter[a].state = "ON";
            w.letter[a].cell = b;
            return w.on(b).size();
        }
        if (kind == 1) {
            if (!isCell(a) || !in(b, 0, 9)) {
                return -1;
            }
            int was = w.high[a];
            w.high[a] = b;
            return was == b ? -3 : was;
        }
        if (kind == 2) {
            if (!in(a, 0, 7) || !in(b, 0, 3)) {
                return -1;
            }
            if (!w.letter[a].state.equals("ON")) {
                return -3;
            }
            int to = World.beside(w.letter[a].cell, b);
            if (to < 0) {
                return -3;
            }
            w.letter[a].cell = to;
            return to;
        }
        return w.hour >= 999 ? -3 : w.pass();
    }

    private int settle(int got) {
        return got < 0 ? no(got) : yes(got);
    }

    int spill(int l, int c) {
        return settle(act(0, l, c));
    }

    int raise(int c, int high) {
        return settle(act(1, c, high));
    }

    int split(int l, int way) {
        return settle(act(2, l, way));
    }

    int pass() {
        return settle(act(3, 0, 0));
    }

    int undo() {
        if (undoWorlds.isEmpty()) {
            return no(-3);
        }
        World was = undoWorlds.remove(undoWorlds.size() - 1);
        w.high = was.high;
        w.letter = was.letter;
        w.hour = was.hour;
        return yes(undoKinds.remove(undoKinds.size() - 1));
    }

    int later(int l, int n) {
        return in(l, 0, 7) && in(n, 0, 60) ? w.after(n).letter[l].cell : -1;
    }

    int readWith(int l) {
        if (!in(l, 0, 7)) {
            return -1;
        }
        World then = w.after(60);
        int bits = 0;
        Letter mine = then.letter[l];
        for (int i = 0; i < 8; i++) {
            Letter other = then.letter[i];
            if (other.state.equals("READ") && other.cell == mine.cell && other.hour == mine.hour) {
                bits |= 1 << i;
            }
        }
        return mine.state.equals("READ") ? bits : -1;
    }

    int run(int c, int i) {
        if (!isCell(c) || i < -1) {
            return -1;
        }
        List<Integer> run = w.run(c);
        return i == -1 ? run.size() - 1 : run.get(Math.min(i, run.size() - 1));
    }

    int basin(int c) {
        if (!isCell(c)) {
            return -1;
        }
        int bits = 0;
        for (int from = 0; from < 25; from++) {
            List<Integer> run = w.run(from);
            bits |= run.get(run.size() - 1) == c ? 1 << from : 0;
        }
        return bits;
    }

    int meeting(int one, int other) {
        if (!isCell(one) || !isCell(other)) {
            return -1;
        }
        for (int c : w.run(one)) {
            if (w.run(other).contains(c)) {
                return c;
            }
        }
        return -1;
    }

    int delay(int one, int other) {
        if (!isCell(one) || !isCell(other)) {
            return -1;
        }
        for (int d = 0; d <= 30; d++) {
            if (!w.meet(one, other, d)) {
                return d;
            }
        }
        return -1;
    }

    int apart(int cells, int k) {
        if (!in(cells, 0, 33554431) || Integer.bitCount(cells) > 8 || !in(k, -1, Integer.bitCount(cells) - 1)) {
            return -1;
        }
        List<Integer> list = new ArrayList<>();
        for (int c = 0; c < 25; c++) {
            if ((cells >> c & 1) == 1) {
                list.add(c);
            }
        }
        boolean[][] clash = new boolean[8][8];
        for (int i = 0; i < list.size(); i++) {
            for (int j = 0; j < list.size(); j++) {
                clash[i][j] = i != j && w.meet(list.get(i), list.get(j), 0);
            }
        }
        for (int kinds = 0; kinds <= 8; kinds++) {
            int[] row = new int[list.size()];
            if (paint(row, 0, kinds, clash)) {
                return k == -1 ? kinds : row[k];
            }
        }
        throw new IllegalStateException();
    }

    private static boolean paint(int[] row, int i, int kinds, boolean[][] clash) {
        if (i == row.length) {
            return true;
        }
        for (row[i] = 0; row[i] < kinds; row[i]++) {
            boolean fits = true;
            for (int j = 0; j < i; j++) {
                fits &= !clash[i][j] || row[j] != row[i];
            }
            if (fits && paint(row, i + 1, kinds, clash)) {
                return true;
            }
        }
        return false;
    }

    int kerbs(int from, int door, int what) {
        if (!isCell(from) || !isCell(door) || !in(what, 0, 1) || !w.door[door]) {
            return -1;
        }
        int[][] memo = standsAtNine();
        int best = -1;
        for (int a = -1; a < 25; a++) {
            for (int b = a; b < 25; b++) {
                int bits = (a < 0 ? 0 : 1 << a) | (b < 0 ? 0 : 1 << b);
                int mine = Integer.bitCount(bits);
                int was = Integer.bitCount(best);
                if (best >= 0 && (mine > was || mine == was && bits > best)) {
                    continue;
                }
                if (canKerb(a, from, door) && canKerb(b, from, door) && endsWith(bits, from, memo) == door) {
                    best = bits;
                }
            }
        }
        return best < 0 ? -1 : what == 0 ? Integer.bitCount(best) : best;
    }

    private boolean canKerb(int cell, int from, int door) {
        return cell < 0 || cell != from && cell != door && w.high[cell] != 9;
    }

    /** How all cells stand now, stand when 9 high, are held now, are held when 9 high. */
    private int[][] standsAtNine() {
        int[][] memo = new int[4][25];
        World all = w.copy();
        java.util.Arrays.fill(all.high, 9);
        for (int c = 0; c < 25; c++) {
            memo[0][c] = w.stands(c);
            memo[1][c] = all.stands(c);
            memo[2][c] = w.held(c) ? 1 : 0;
            memo[3][c] = all.held(c) ? 1 : 0;
        }
        return memo;
    }

    private int endsWith(int bits, int from, int[][] memo) {
        int at = from;
        while (true) {
            if (w.door[at] || memo[2 + (bits >> at & 1)][at] == 1) {
                return at;
            }
            int best = at;
            for (int way = 0; way < 4; way++) {
                int b = World.beside(at, way);
                if (b >= 0 && memo[bits >> b & 1][b] < memo[bits >> best & 1][best]) {
                    best = b;
                }
            }
            if (best == at) {
                return at;
            }
            at = best;
        }
    }

    int springs() {
        int bits = 33554431;
        for (int c = 0; c < 25; c++) {
            if (w.runsTo(c) != c) {
                bits &= ~(1 << w.runsTo(c));
            }
        }
        return bits;
    }

    int pools() {
        int bits = 0;
        for (int c = 0; c < 25; c++) {
            List<Integer> run = w.run(c);
            int last = run.get(run.size() - 1);
            bits |= w.door[last] ? 0 : 1 << last;
        }
        return bits;
    }

    int longest(int what) {
        int most = 0;
        int from = 0;
        for (int c = 24; c >= 0; c--) {
            if (w.run(c).size() >= most) {
                most = w.run(c).size();
                from = c;
            }
        }
        return what == 0 ? most - 1 : what == 1 ? from : -1;
    }

    int seen(int n, int c) {
        if (!in(n, 0, 30) || !isCell(c)) {
            return no(-1);
        }
        if (w.seen.size() == 6) {
            return no(-5);
        }
        w.seen.add(new int[] {n, c});
        return yes(w.seen.size());
    }

    int forget() {
        int was = w.seen.size();
        w.seen.clear();
        return was;
    }

    int canBe() {
        int bits = 0;
        for (int l = 0; l < 8; l++) {
            boolean can = !w.letter[l].state.equals("IN");
            for (int[] s : w.seen) {
                can = can && w.after(s[0]).letter[l].cell == s[1];
            }
            bits |= can ? 1 << l : 0;
        }
        return bits;
    }

    int look(int what) {
        int can = canBe();
        if (can == 0 || !in(what, 0, 1)) {
            return -1;
        }
        int bestN = -1;
        int best = 99;
        for (int n = 0; n <= 30; n++) {
            World then = w.after(n);
            int[] at = new int[25];
            int most = 0;
            for (int l = 0; l < 8; l++) {
                if ((can >> l & 1) == 1) {
                    most = Math.max(most, ++at[then.letter[l].cell]);
                }
            }
            if (most < best) {
                best = most;
                bestN = n;
            }
        }
        return what == 0 ? bestN : best;
    }

    long few(int k, int n) {
        if (!in(k, 1, 20) || !in(n, 0, 99)) {
            return -1;
        }
        long[] chance = new long[101];
        chance[0] = 1000000000000L;
        for (int drop = 0; drop < n; drop++) {
            long[] then = new long[101];
            for (int did = 0; did < 100; did++) {
                then[did] += chance[did] * (10 - w.cold) / 10;
                then[did + 1] += chance[did] * w.cold / 10;
            }
            chance = then;
        }
        long all = 0;
        for (int did = 0; did < k; did++) {
            all += chance[did];
        }
        return all;
    }

    int compare(int law, int c) {
        if (!in(law, -1, w.laws.size() - 1) || !isCell(c)) {
            return -1;
        }
        World other = w.copy();
        other.force = law;
        return other.runsTo(c);
    }

    int days(int seed, int n) {
        if (!in(seed, 0, 1000000) || !in(n, 1, 60)) {
            return no(-1);
        }
        daysWorld = w.copy();
        long s = seed;
        for (int i = 0; i < n && daysWorld.hour < 999; i++) {
            int[] drawn = new int[3];
            for (int d = 0; d < 3; d++) {
                s = (s * 1103 + 12345) % 1000003;
                drawn[d] = (int) (s % new int[] {8, 25, 4}[d]);
            }
            if (drawn[2] == 2) {
                actOn(daysWorld, 2, drawn[0], drawn[1] % 4);
            } else if (drawn[2] < 2) {
                actOn(daysWorld, 0, drawn[0], drawn[1]);
            }
            daysWorld.pass();
        }
        return yes(daysWorld.are("READ"));
    }

    int drawn(int l, int what) {
        return tell(daysWorld, l, what);
    }

    int image(int k) {
        if (!in(k, 0, 1)) {
            return no(-1);
        }
        images[k] = w.copy();
        return yes(0);
    }

    int back(int k) {
        if (!in(k, 0, 1)) {
            return no(-1);
        }
        if (images[k] == null) {
            return no(-2);
        }
        w = images[k].copy();
        clearUndo();
        return yes(0);
    }

    int count(int what) {
        switch (what) {
            case 0:
                int bits = 0;
                for (int c = 0; c < 25; c++) {
                    bits |= w.door[c] ? 1 << c : 0;
                }
                return bits;
            case 1: return w.are("IN");
            case 2: return w.are("READ");
            case 3: return w.seen.size();
            case 4: return w.laws.size();
            case 5: return undoWorlds.size();
            case 6: return tape.length();
            case 7: return refused[1];
            case 8: return refused[2];
            case 9: return refused[3];
            case 10: return refused[5];
            case 11: return refused[6];
            case 12: return w.force;
            case 13: return w.hour;
            case 14: return w.cold;
            case 15: return w.mood;
            default: return -1;
        }
    }

    int status() {
        return status;
    }
}
