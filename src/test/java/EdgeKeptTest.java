/** Promises 45 and 46 at their edges, sentence by sentence. */
public final class EdgeKeptTest {
    private static final Due T = new Due("EdgeKeptTest");
    private static final int MIN = Due.MIN, MAX = Due.MAX;

    public static void main(String[] args) {
        jobsKept();
        typesKept();
        daysKept();
        pressKept();
        onTheLastDay();
        keptStays();
        latestKept();
        nothingKept();
        T.end();
    }

    /** "how many JOBS": from none to six, with all that is theirs, and the plan. */
    private static void jobsKept() {
        for (int n = 0; n <= 6; n++) {
            for (int later = 0; later <= 6; later++) {
                PressDays x = new PressDays();
                for (int i = 0; i < n; i++) x.job(i, 9 - i, i % 2, 60 - i, 99 - i);
                int digits = 0;
                for (int i = 0; i < n; i++) digits |= n - 1 - i << 3 * i;
                x.plan(digits);
                T.promise(45);
                T.due("keep()", x.keep(), 1);
                while (x.many(0) > 0) x.drop(0);
                for (int i = 0; i < later; i++) x.job(0, 1, 1 - i % 2, i, i);
                T.promise(46);
                T.due("again() of " + n + ", from " + later, x.again(), n);
                T.due("many(0)", x.many(0), n);
                for (int i = 0; i < n; i++) {
                    int[] due = {i, i == 5 ? 2 : 9 - i, i % 2, 60 - i, 99 - i};
                    for (int k = 0; k < 5; k++) T.due("jobOf(" + i + ", " + k + ")", x.jobOf(i, k), due[k]);
                    T.due("planOf(" + i + ")", x.planOf(i), n - 1 - i);
                }
                T.due("jobOf(" + n + ", 0)", x.jobOf(n, 0), -1);
                T.due("planOf(" + n + ")", x.planOf(n), -1);
                T.due("job", x.job(0, 1, 0, 0, 0), n == 6 ? -2 : n);
            }
        }
    }

    private static void typesKept() {
        T.promise(46);
        int[][] types = {{5, 9, 1, 20, 99, 1}, {0, 1, 0, 0, 0, 1}, {3, 4, 1, 7, 50, 2}};
        for (int n = 0; n <= 3; n++) {
            PressDays x = new PressDays();
            for (int i = 0; i < n; i++) x.type(types[i][0], types[i][1], types[i][2], types[i][3], types[i][4], types[i][5]);
            x.keep();
            for (int i = n; i < 3; i++) x.type(1, 2, 0, 3, 4, 1);
            for (int twice = 0; twice < 2; twice++) {
                T.due("again()", x.again(), 0);
                T.due("many(1)", x.many(1), n);
                for (int i = 0; i < n; i++) {
                    for (int k = 0; k < 6; k++) T.due("typeOf(" + i + ", " + k + ")", x.typeOf(i, k), types[i][k]);
                }
                T.due("typeOf(" + n + ", 0)", x.typeOf(n, 0), -1);
                // What has gone has left its odds and its room.
                int[] left = {4, 3, 2, 0};
                if (n < 3) T.due("type", x.type(2, 1, 0, 0, 0, left[n]), n);
                else T.due("type four", x.type(2, 1, 0, 0, 0, 1), -4);
            }
        }
    }

    /** Lost slots, nights of all days 0 to 60, and laws. */
    private static void daysKept() {
        T.promise(46);
        PressDays x = new PressDays();
        for (int day = 0; day <= 60; day++) {
            x.lose(day, day % 10);
            x.night(day, 9 - day % 10);
        }
        int[] law = {4, 3, 99, 4};
        for (int i = 0; i < 4; i++) x.set(i, law[i]);
        x.keep();
        for (int day = 0; day <= 60; day++) {
            x.lose(day, 5);
            x.night(day, 5);
        }
        for (int i = 0; i < 4; i++) x.set(i, 1);
        T.due("again()", x.again(), 0);
        for (int day = 0; day <= 60; day++) {
            T.due("lose(" + day + ", 1)", x.lose(day, 1), day % 10);
            T.due("night(" + day + ", 1)", x.night(day, 1), 9 - day % 10);
        }
        for (int i = 0; i < 4; i++) T.due("set(" + i + ", 1)", x.set(i, 1), law[i]);
    }

    /** The day, the colour, the setting that is left, the till, z. */
    private static void pressKept() {
        T.promise(46);
        PressDays x = new PressDays();
        x.set(0, 1);
        x.set(1, 3);
        x.job(1, 1, 0, 0, 0);
        x.lose(0, 1);
        x.job(0, 1, 1, 60, 50);
        for (int i = 0; i < 3; i++) x.goes();
        x.seed(MIN);
        x.keep();
        for (int i = 0; i < 4; i++) x.goes();
        x.comes();
        T.due("press(0) ahead", x.press(0), 7);
        T.due("till() ahead", x.till(), 40);
        T.due("again()", x.again(), 1);
        int[] press = {3, 1, 2};
        for (int i = 0; i < 3; i++) T.due("press(" + i + ")", x.press(i), press[i]);
        T.due("till()", x.till(), -10);
        T.due("seed(MAX)", x.seed(MAX), MIN);
        T.due("ends(0)", x.ends(0), 5);
        // From now on all goes as it went.
        for (int i = 0; i < 2; i++) T.due("goes()", x.goes(), 0);
        T.due("goes()", x.goes(), 1);
        T.due("till() then", x.till(), 40);
    }

    private static void onTheLastDay() {
        T.promise(46);
        PressDays x = new PressDays();
        x.keep();
        for (int i = 0; i < 60; i++) x.goes();
        T.due("goes() on day 60", x.goes(), -4);
        T.due("again()", x.again(), 0);
        T.due("press(0)", x.press(0), 0);
        T.due("goes() on day 0", x.goes(), 0);
        for (int i = 0; i < 59; i++) x.goes();
        x.job(0, 9, 0, 0, 9);
        x.keep();
        T.due("board()", x.board(), 0);
        T.due("press(0)", x.press(0), 0);
        T.due("again()", x.again(), 1);
        T.due("press(0)", x.press(0), 60);
        T.due("goes()", x.goes(), -4);
    }

    /** "(which stays)": what is done behind keep() or again() isn't done to what is kept. */
    private static void keptStays() {
        T.promise(46);
        PressDays x = new PressDays();
        x.job(0, 2, 0, 9, 7);
        x.job(1, 2, 1, 9, 8);
        x.plan(1);
        x.keep();
        for (int i = 0; i < 5; i++) {
            x.goes();
            x.plan(010);
            x.set(2, 50 + i);
            x.lose(9, i);
            x.type(0, 1, 0, 0, 0, 1);
            x.comes();
            if (i % 2 == 0) x.drop(0);
            if (i == 3) Due.board(x, "1 by 1 for 1;1 by 1 for 1;1 by 1 for 1;");
            T.due("again()", x.again(), 2);
            T.due("press(0)", x.press(0), 0);
            T.due("press(1)", x.press(1), 0);
            T.due("planOf(0)", x.planOf(0), 1);
            T.due("jobOf(0, 1)", x.jobOf(0, 1), 2);
            T.due("jobOf(1, 1)", x.jobOf(1, 1), 2);
            T.due("set(2, 5)", x.set(2, 5), 5);
            T.due("slots(9)", x.slots(9), 2);
            T.due("many(1)", x.many(1), 0);
            T.due("seed(1)", x.seed(1), 1);
        }
        // A board() that finds a fault, and one that doesn't, leave what is kept.
        T.due("board()", Due.board(x, "fine"), -104);
        T.due("again()", x.again(), 2);
    }

    private static void latestKept() {
        T.promise(46);
        PressDays x = new PressDays();
        for (int i = 0; i < 6; i++) {
            x.job(0, 1, 0, 60, i);
            T.promise(45);
            T.due("keep()", x.keep(), 1);
            T.promise(46);
            x.drop(0);
            T.due("again()", x.again(), i + 1);
        }
        for (int left = 5; left >= 0; left--) {
            x.drop(left);
            x.keep();
            x.job(5, 9, 1, 60, 99);
            T.due("again()", x.again(), left);
        }
        T.due("again() once more", x.again(), 0);
    }

    /** "NONE: nothing is kept": what is kept by one object isn't by another. */
    private static void nothingKept() {
        T.promise(46);
        PressDays y = new PressDays();
        PressDays x = new PressDays();
        x.job(0, 1, 0, 0, 0);
        x.keep();
        for (int i = 0; i < 2; i++) T.due("again() of another", y.again(), -3);
        y.job(0, 1, 0, 0, 0);
        T.due("again() of another", y.again(), -3);
        T.due("board()", y.board(), 0);
        T.due("again() behind board()", y.again(), -3);
        T.promise(45);
        T.due("keep() of nothing", y.keep(), 1);
        T.promise(46);
        T.due("again() of nothing", y.again(), 0);
        T.due("again()", x.again(), 1);
    }
}
