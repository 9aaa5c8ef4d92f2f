/** Promises 26 to 32: who may come, and days that go. */
public final class ComersTest {
    private static final Due T = new Due("ComersTest");
    private static final int MIN = Integer.MIN_VALUE, MAX = Integer.MAX_VALUE, NO = PressDays.NO;

    public static void main(String[] args) {
        type();
        typeOf();
        ahead();
        aheadKnows();
        comes();
        seed();
        goes();
        goesInOrder();
        lastDay();
        till();
        T.end();
    }

    private static PressDays oneSlot() {
        PressDays x = new PressDays();
        x.set(0, 1);
        return x;
    }

    private static void type() {
        T.promise(26);
        PressDays x = new PressDays();
        int[][] bad = {{-1, 1, 0, 0, 0, 1}, {6, 1, 0, 0, 0, 1}, {0, 0, 0, 0, 0, 1}, {0, 10, 0, 0, 0, 1},
            {0, 1, -1, 0, 0, 1}, {0, 1, 2, 0, 0, 1}, {0, 1, 0, -1, 0, 1}, {0, 1, 0, 21, 0, 1}, {0, 1, 0, 0, -1, 1},
            {0, 1, 0, 0, 100, 1}, {0, 1, 0, 0, 0, 0}, {0, 1, 0, 0, 0, 5}, {0, 1, 0, 0, 0, MIN}, {0, 1, 0, 0, 0, MAX}};
        for (int[] b : bad) T.due("type(bad)", x.type(b[0], b[1], b[2], b[3], b[4], b[5]), -1);
        T.due("type(least)", x.type(0, 1, 0, 0, 0, 1), 0);
        T.due("type: odds above 4", x.type(0, 1, 0, 0, 0, 4), -4);
        T.due("type(most)", x.type(5, 9, 1, 20, 99, 1), 1);
        T.due("type: odds above 4", x.type(0, 1, 0, 0, 0, 3), -4);
        T.due("type", x.type(1, 1, 0, 0, 0, 1), 2);
        T.due("type: odds above 4 is ahead", x.type(0, 1, 0, 0, 0, 2), -4);
        T.due("type four", x.type(0, 1, 0, 0, 0, 1), -2);
        for (int[] b : bad) T.due("type(bad) of three", x.type(b[0], b[1], b[2], b[3], b[4], b[5]), -1);
        T.due("many(1)", x.many(1), 3);
        x = new PressDays();
        T.due("type: all odds", x.type(4, 1, 0, 0, 0, 4), 0);
        T.due("type: no odds are left", x.type(4, 1, 0, 0, 0, 1), -4);
    }

    private static void typeOf() {
        T.promise(27);
        PressDays x = new PressDays();
        T.due("typeOf(0, 0) of none", x.typeOf(0, 0), -1);
        int[][] due = {{5, 4, 1, 20, 99, 2}, {3, 9, 0, 7, 12, 1}};
        for (int[] d : due) x.type(d[0], d[1], d[2], d[3], d[4], d[5]);
        for (int i = 0; i < 2; i++) {
            for (int k = 0; k < 6; k++) T.due("typeOf(" + i + ", " + k + ")", x.typeOf(i, k), due[i][k]);
        }
        for (int i : new int[] {-1, 2, MIN, MAX}) T.due("typeOf(" + i + ", 0)", x.typeOf(i, 0), -1);
        for (int k : new int[] {-1, 6, MIN, MAX}) T.due("typeOf(0, " + k + ")", x.typeOf(0, k), -1);
    }

    private static void ahead() {
        T.promise(28);
        PressDays x = oneSlot();
        T.due("ahead(0, 0) of none", x.ahead(0, 0), 0);
        T.due("ahead(0, 1) of none", x.ahead(0, 1), 1);
        T.due("ahead(3, 0) of no types", x.ahead(3, 0), 0);
        x.type(0, 1, 0, 0, 10, 2);
        T.due("ahead(0, 0)", x.ahead(0, 0), 0);
        T.due("ahead(1, 0)", x.ahead(1, 0), 5);
        T.due("ahead(1, 1)", x.ahead(1, 1), 1);
        T.due("ahead(2, 0)", x.ahead(2, 0), 15);
        T.due("ahead(2, 1)", x.ahead(2, 1), 2);
        T.due("ahead(3, 0)", x.ahead(3, 0), 35);
        T.due("ahead(3, 1)", x.ahead(3, 1), 4);
        for (int n : new int[] {-1, 4, MIN, MAX}) T.due("ahead(" + n + ", 0)", x.ahead(n, 0), NO);
        for (int part : new int[] {-1, 2, MIN, MAX}) T.due("ahead(1, " + part + ")", x.ahead(1, part), NO);
        T.due("many(0) stays", x.many(0), 0);
        // A day that is past, with a fine: below 0, and nobody more is taken that costs.
        x.job(1, 1, 0, 0, 9);
        x.lose(0, 1);
        T.due("ahead(2, 0) below 0", x.ahead(2, 0), -10);
        T.due("ahead(2, 1) below 0", x.ahead(2, 1), 1);
        for (int i = 0; i < 2; i++) x.job(0, 1, 0, 60, 1);
        T.due("ahead(2, 0) of three", x.ahead(2, 0), -8);
        T.due("ahead(3, 0) of three", x.ahead(3, 0), NO);
        for (int i = 0; i < 2; i++) x.job(0, 1, 0, 60, 1);
        T.due("ahead(0, 0) of five", x.ahead(0, 0), -6);
        T.due("ahead(1, 0) of five", x.ahead(1, 0), NO);
        x.job(0, 1, 0, 60, 1);
        T.due("ahead(0, 0) of six", x.ahead(0, 0), NO);
    }

    private static void aheadKnows() {
        T.promise(28);
        // Two calls for one slot: a cheap one is sent away first, since a dear one may come: 16, not 14 and 3 by 4.
        PressDays x = oneSlot();
        x.type(0, 1, 0, 0, 4, 2);
        x.type(0, 1, 0, 0, 20, 2);
        T.due("ahead(1, 0)", x.ahead(1, 0), 12);
        T.due("ahead(2, 0)", x.ahead(2, 0), 16);
        T.due("ahead(2, 1)", x.ahead(2, 1), 1);
        // Promised from the day now on; a half takes half; what comes is behind what is there.
        x = oneSlot();
        x.type(5, 9, 1, 5, 8, 4);
        T.due("ahead(1, 0) of a half", x.ahead(1, 0), 8);
        x.set(1, 2);
        T.due("ahead(1, 0) of a half with setting", x.ahead(1, 0), 0);
        x.set(1, 1);
        for (int i = 0; i < 30; i++) x.goes();
        T.due("ahead(1, 0) on day 30", x.ahead(1, 0), 8);
        x.job(0, 1, 0, 30, 99);
        T.due("ahead(1, 0) behind a job", x.ahead(1, 0), 99);
        // Patience may go behind day 60.
        x = oneSlot();
        for (int i = 0; i < 60; i++) x.goes();
        x.type(0, 9, 0, 8, 7, 4);
        T.due("ahead(1, 0) on day 60", x.ahead(1, 0), 7);
        x.lose(60, 1);
        T.due("ahead(1, 0) on day 60 lost", x.ahead(1, 0), 0);
    }

    private static void comes() {
        T.promise(29);
        PressDays x = new PressDays();
        T.due("comes() of none", x.comes(), -9);
        T.due("seed(1)", x.seed(1), 1103527590);
        x.type(0, 1, 0, 0, 1, 2);
        x.type(0, 1, 0, 0, 1, 1);
        T.due("comes() of 2", x.comes(), 1);
        x.seed(-1);
        T.due("comes() of -1", x.comes(), 0);
        T.due("seed(..)", x.seed(9), -1103502900);
        T.due("comes() of 9", x.comes(), 0);
        int[] count = new int[4];
        x.seed(1);
        int z = 1;
        for (int i = 0; i < 200; i++) {
            z = z * 1103515245 + 12345;
            int drawn = z >> 16 & 3;
            int due = drawn < 2 ? 0 : drawn < 3 ? 1 : -9;
            count[drawn]++;
            T.due("comes()", x.comes(), due);
        }
        for (int i = 0; i < 4; i++) T.due("all were drawn", count[i] > 0 ? 1 : 0, 1);
        T.due("many(0): it only tells", x.many(0), 0);
        x.type(0, 1, 0, 0, 1, 1);
        x = new PressDays();
        for (int i = 0; i < 3; i++) x.type(0, 1, 0, 0, 1, 1);
        z = 1;
        for (int i = 0; i < 40; i++) {
            z = z * 1103515245 + 12345;
            int drawn = z >> 16 & 3;
            T.due("comes() of three", x.comes(), drawn < 3 ? drawn : -9);
        }
    }

    private static void seed() {
        T.promise(30);
        PressDays x = new PressDays();
        T.due("seed(7)", x.seed(7), 1);
        T.due("seed(MIN)", x.seed(MIN), 7);
        T.due("seed(MAX)", x.seed(MAX), MIN);
        T.due("seed(-1)", x.seed(-1), MAX);
        T.due("seed(0)", x.seed(0), -1);
    }

    private static void goes() {
        T.promise(31);
        PressDays x = new PressDays();
        T.due("goes() of none", x.goes(), 0);
        T.due("press(0)", x.press(0), 1);
        x.job(0, 1, 0, 60, 5);
        x.job(0, 1, 0, 60, 6);
        x.job(1, 4, 1, 0, 9);
        x.job(5, 6, 1, 0, 9);
        T.due("goes() of two", x.goes(), 2);
        T.due("many(0)", x.many(0), 2);
        T.due("jobOf(0, 0)", x.jobOf(0, 0), 1);
        T.due("press(1): the next slot is for the next one", x.press(1), 0);
        T.due("planOf(0)", x.planOf(0), 0);
        T.due("goes() with setting", x.goes(), 0);
        T.due("jobOf(0, 1)", x.jobOf(0, 1), 3);
        T.due("press(1)", x.press(1), 1);
        T.due("goes()", x.goes(), 0);
        T.due("jobOf(0, 1)", x.jobOf(0, 1), 1);
        T.due("goes()", x.goes(), 1);
        T.due("jobOf(0, 1) of the half", x.jobOf(0, 1), 2);
        x.lose(5, 2);
        T.due("goes() of a lost day", x.goes(), 0);
        T.due("jobOf(0, 1) behind a lost day", x.jobOf(0, 1), 2);
        x.night(6, 1);
        T.due("goes() of a last one", x.goes(), 1);
        T.due("many(0)", x.many(0), 0);
        T.due("press(0)", x.press(0), 7);
        T.due("till()", x.till(), 5 + 6 - 10 - 5);
    }

    private static void goesInOrder() {
        T.promise(31);
        PressDays x = new PressDays();
        x.set(0, 3);
        for (int i = 0; i < 5; i++) x.job(0, i == 3 ? 2 : 1, 0, 60, i);
        x.plan(3 + 8 * 1 + 64 * 4 + 512 * 0 + 4096 * 2);
        T.due("goes()", x.goes(), 2);
        T.due("till()", x.till(), 4);
        int[] price = {0, 2, 4}, order = {2, 0, 1};
        for (int i = 0; i < 3; i++) {
            T.due("jobOf(" + i + ", 4)", x.jobOf(i, 4), price[i]);
            T.due("planOf(" + i + ")", x.planOf(i), order[i]);
        }
        // Of a colour's last setting nothing is done without a job.
        x = oneSlot();
        x.set(1, 3);
        x.job(0, 1, 1, 60, 1);
        x.goes();
        x.drop(0);
        T.due("goes() of none", x.goes(), 0);
        T.due("press(2)", x.press(2), 2);
        T.due("press(1)", x.press(1), 1);
    }

    private static void lastDay() {
        T.promise(31);
        PressDays x = oneSlot();
        for (int i = 0; i < 60; i++) T.due("goes() on day " + i, x.goes(), 0);
        x.job(0, 1, 0, 60, 9);
        T.due("goes() on day 60", x.goes(), -4);
        T.due("press(0)", x.press(0), 60);
        T.due("many(0)", x.many(0), 1);
        T.due("jobOf(0, 1)", x.jobOf(0, 1), 1);
        T.due("till()", x.till(), 0);
        T.due("ends(0)", x.ends(0), 60);
    }

    private static void till() {
        T.promise(32);
        PressDays x = oneSlot();
        T.due("till() at first", x.till(), 0);
        x.job(0, 1, 0, 0, 9);
        x.job(1, 1, 0, 0, 9);
        x.job(2, 1, 0, 1, 9);
        x.job(4, 1, 0, 2, 9);
        int[] due = {9, -1, 3, 3};
        for (int d : due) {
            x.goes();
            T.due("till()", x.till(), d);
        }
        x.job(3, 1, 0, 4, 9);
        x.drop(0);
        T.due("till() behind a drop", x.till(), 3);
        x.set(2, 99);
        x.job(3, 1, 0, 0, 9);
        x.goes();
        T.due("till() below 0", x.till(), 3 + 4 - 99);
    }
}
