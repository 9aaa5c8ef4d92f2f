/** Counts the answers that aren't as due; each stands under the promise that it tests. */
final class Due {
    private final String test;
    private int promise = 0;
    private int asked = 0;
    private int wrong = 0;

    Due(String test) {
        this.test = test;
    }

    void promise(int n) {
        promise = n;
    }

    void due(String call, long got, long want) {
        asked++;
        if (got == want) return;
        wrong++;
        System.out.println(test + ", promise " + promise + ": " + call + " answered " + got + ", due is " + want);
    }

    void end() {
        System.out.println(test + ": " + asked + " answers, " + wrong + " not as due");
        if (wrong > 0) System.exit(1);
    }

    /** Feeds a text, eight bytes at a time; what lies above the last byte must count nothing. */
    static void feed(PressDays x, String s) {
        for (int i = 0; i < s.length(); i += 8) {
            int n = Math.min(8, s.length() - i);
            long eight = 0;
            for (int j = 7; j >= 0; j--) eight = eight << 8 | (j < n ? s.charAt(i + j) : 'z');
            x.feed(eight, n);
        }
    }

    static int board(PressDays x, String s) {
        feed(x, s);
        return x.board();
    }
}
