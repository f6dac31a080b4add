/** Counts answers that are not as due, and feeds texts. */
final class Checks {
    private int wrong;
    private final String name;

    Checks(String name) {
        this.name = name;
    }

    void due(String call, long got, long want) {
        if (got != want) {
            wrong++;
            System.out.println(name + ": " + call + " answered " + got + ", due is " + want);
        }
    }

    void end() {
        System.out.println(name + ": " + (wrong == 0 ? "all answers are as due" : wrong + " answers are not as due"));
        if (wrong != 0) {
            System.exit(1);
        }
    }

    /** Five numbers of four bytes each, from a place in a text on; blanks behind its end. */
    static int[] fives(String text, int from) {
        int[] five = new int[5];
        for (int i = 0; i < 20; i++) {
            char sign = from + i < text.length() ? text.charAt(from + i) : ' ';
            five[i / 4] = five[i / 4] << 8 | sign;
        }
        return five;
    }

    /** The tape must be empty. */
    static void feed(MercuryPost post, String text) {
        for (int from = 0; from < text.length(); from += 20) {
            int[] five = fives(text, from);
            post.feed(five[0], five[1], five[2], five[3], five[4]);
        }
        post.end(text.length());
    }

    static int law(MercuryPost post, String text) {
        feed(post, text);
        return post.law();
    }

    static int orders(MercuryPost post, String text) {
        feed(post, text);
        return post.orders();
    }

    /** Rows of a cell, how high, 1 a door or 0. */
    static int row(MercuryPost post, int... bytes) {
        StringBuilder text = new StringBuilder();
        for (int one : bytes) {
            text.append((char) one);
        }
        feed(post, text.toString());
        return post.row();
    }
}
