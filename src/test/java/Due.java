/** Counts the answers that aren't as due; each stands under the promise that it tests. */
final class Due {
    static final int MIN = Integer.MIN_VALUE, MAX = Integer.MAX_VALUE;
    /** What is no number of two, three, four, six things: one step outside, and far. */
    static final int[] OUT_OF_2 = {-1, 2, MIN, MAX}, OUT_OF_3 = {-1, 3, MIN, MAX}, OUT_OF_4 = {-1, 4, MIN, MAX},
        OUT_OF_6 = {-1, 6, MIN, MAX};
    /** Jobs of which one number is a step outside: kind, slots, colour, by, price. */
    static final int[][] BAD_JOBS = {{-1, 1, 0, 0, 0}, {6, 1, 0, 0, 0}, {0, 0, 0, 0, 0}, {0, 10, 0, 0, 0},
        {0, 1, -1, 0, 0}, {0, 1, 2, 0, 0}, {0, 1, 0, -1, 0}, {0, 1, 0, 61, 0}, {0, 1, 0, 0, -1}, {0, 1, 0, 0, 100},
        {MIN, MIN, MIN, MIN, MIN}, {MAX, MAX, MAX, MAX, MAX}};

    private final String test;
    private int promise = 0;
    private int asked = 0;
    private int wrong = 0;

    Due(String test) {
        this.test = test;
    }

    void promise(int n) {
        promise = n;
    }

    void due(String call, long got, long want) {
        asked++;
        if (got == want) return;
        wrong++;
        System.out.println(test + ", promise " + promise + ": " + call + " answered " + got + ", due is " + want);
    }

    void end() {
        System.out.println(test + ": " + asked + " answers, " + wrong + " not as due");
        if (wrong > 0) System.exit(1);
    }

    /** A new object of so many slots a day and so much setting. */
    static PressDays press(int slots, int setting) {
        PressDays x = new PressDays();
        x.set(0, slots);
        x.set(1, setting);
        return x;
    }

    /** Feeds a text, eight bytes at a time; what lies above the last byte must count nothing. */
    static void feed(PressDays x, String s) {
        for (int i = 0; i < s.length(); i += 8) {
            int n = Math.min(8, s.length() - i);
            long eight = 0;
            for (int j = 7; j >= 0; j--) eight = eight << 8 | (j < n ? s.charAt(i + j) : 'z');
            x.feed(eight, n);
        }
    }

    static int board(PressDays x, String s) {
        feed(x, s);
        return x.board();
    }
}
