/** Promises 33 to 36: rows. */
public final class RowsTest {
    private static final Due T = new Due("RowsTest");
    private static final int MIN = Integer.MIN_VALUE, MAX = Integer.MAX_VALUE, NO = PressDays.NO;

    public static void main(String[] args) {
        prove();
        proveSix();
        rowAndAlter();
        judge();
        judgeLater();
        T.end();
    }

    /** Best is 0, 1, 2: on days 1, 2, 3, worth 10, 20, -5. */
    private static PressDays three() {
        PressDays x = new PressDays();
        x.job(0, 3, 0, 1, 10);
        x.job(1, 2, 1, 2, 20);
        x.job(0, 1, 0, 0, 7);
        return x;
    }

    private static void prove() {
        T.promise(33);
        PressDays x = new PressDays();
        T.due("prove() of none", x.prove(), 0);
        x = three();
        x.plan(0012);
        T.due("prove()", x.prove(), 3);
        T.due("many(2)", x.many(2), 3);
        int[][] due = {{0, 1, 10}, {1, 2, 20}, {2, 3, -5}};
        for (int i = 0; i < 3; i++) {
            for (int k = 0; k < 3; k++) T.due("row(" + i + ", " + k + ")", x.row(i, k), due[i][k]);
        }
        T.due("planOf(0) stays", x.planOf(0), 2);
        x.night(0, 1);
        T.due("row(0, 0) stays", x.row(0, 0), 0);
        T.due("prove() anew", x.prove(), 3);
        due = new int[][] {{2, 0, 7}, {0, 1, 10}, {1, 2, 20}};
        for (int i = 0; i < 3; i++) {
            for (int k = 0; k < 3; k++) T.due("row(" + i + ", " + k + ") anew", x.row(i, k), due[i][k]);
        }
        x.drop(0);
        x.drop(0);
        T.due("many(2) stays", x.many(2), 3);
        T.due("prove() of one", x.prove(), 1);
        T.due("row(1, 0) of one", x.row(1, 0), NO);
        x.drop(0);
        T.due("prove() of none left", x.prove(), 0);
        T.due("row(0, 0) of none", x.row(0, 0), NO);
    }

    private static void proveSix() {
        T.promise(33);
        PressDays x = new PressDays();
        x.set(0, 1);
        for (int i = 0; i < 6; i++) x.job(0, 1, 0, 5 - i, i);
        T.due("prove() of six", x.prove(), 6);
        for (int i = 0; i < 6; i++) {
            T.due("row(" + i + ", 0)", x.row(i, 0), 5 - i);
            T.due("row(" + i + ", 1)", x.row(i, 1), i);
            T.due("row(" + i + ", 2)", x.row(i, 2), 5 - i);
        }
        T.promise(36);
        T.due("judge() of six", x.judge(), 0);
    }

    private static void rowAndAlter() {
        PressDays x = three();
        T.promise(34);
        T.due("row(0, 0) ahead of all", x.row(0, 0), NO);
        T.promise(35);
        T.due("alterRow(0, 0, 1) ahead of all", x.alterRow(0, 0, 1), NO);
        x.prove();
        for (int i : new int[] {-1, 3, MIN, MAX}) {
            T.promise(34);
            T.due("row(" + i + ", 0)", x.row(i, 0), NO);
            T.due("row(0, " + i + ")", x.row(0, i), NO);
            T.promise(35);
            T.due("alterRow(" + i + ", 0, 5)", x.alterRow(i, 0, 5), NO);
            T.due("alterRow(0, " + i + ", 5)", x.alterRow(0, i, 5), NO);
        }
        int[][] was = {{0, 1, 10}, {1, 2, 20}, {2, 3, -5}};
        for (int i = 0; i < 3; i++) {
            for (int k = 0; k < 3; k++) {
                T.due("alterRow(" + i + ", " + k + ", MIN)", x.alterRow(i, k, MIN), was[i][k]);
                T.due("alterRow(" + i + ", " + k + ", v)", x.alterRow(i, k, 10 * i + k), MIN);
            }
        }
        T.promise(34);
        for (int i = 0; i < 3; i++) {
            for (int k = 0; k < 3; k++) T.due("row(" + i + ", " + k + ")", x.row(i, k), 10 * i + k);
        }
    }

    private static void judge() {
        T.promise(36);
        PressDays x = new PressDays();
        T.due("judge() of none", x.judge(), 0);
        x = three();
        T.due("judge() of no rows", x.judge(), 222);
        x.prove();
        T.due("judge()", x.judge(), 0);
        x.plan(0012);
        T.due("judge(): the plan counts nothing", x.judge(), 0);
        int[] wrongJobs = {-1, 3, 32, MIN, MAX};
        for (int i = 0; i < 3; i++) {
            for (int k = 0; k < 3; k++) {
                int was = x.alterRow(i, k, 99);
                T.due("judge() of row " + i + ", " + k, x.judge(), i + 1);
                x.alterRow(i, k, was);
            }
            for (int job : wrongJobs) {
                int was = x.alterRow(i, 0, job);
                T.due("judge() of job " + job, x.judge(), i + 1);
                x.alterRow(i, 0, was);
            }
        }
        x.alterRow(2, 0, 1);
        T.due("judge() of a job told twice", x.judge(), 3);
        // Told twice with the day and worth that it would have behind itself.
        x.drop(2);
        x.prove();
        x.alterRow(1, 0, 0);
        x.alterRow(1, 1, 2);
        x.alterRow(1, 2, -5);
        T.due("judge() of a job told twice as if there were two", x.judge(), 2);
        // The same of the other job: black, set on day 0, ending on days 1 and 2, in time on both.
        int[][] twice = {{1, 1, 20}, {1, 2, 20}};
        for (int i = 0; i < 2; i++) {
            for (int k = 0; k < 3; k++) x.alterRow(i, k, twice[i][k]);
        }
        T.due("judge() of another job told twice as if there were two", x.judge(), 2);
        x.job(0, 1, 0, 0, 7);
        x.prove();
        x.alterRow(1, 2, 21);
        T.due("judge(): the first one", x.judge(), 2);
        // Any order will do, if it is told rightly: 2, 1, 0 ends on days 0, 1, 3.
        int[][] other = {{2, 0, 7}, {1, 1, 20}, {0, 3, -5}};
        for (int i = 0; i < 3; i++) {
            for (int k = 0; k < 3; k++) x.alterRow(i, k, other[i][k]);
        }
        T.due("judge() of another order", x.judge(), 0);
    }

    private static void judgeLater() {
        T.promise(36);
        PressDays x = three();
        x.prove();
        x.job(0, 1, 0, 60, 3);
        T.due("judge() with a job more", x.judge(), 222);
        x.drop(3);
        T.due("judge() without it", x.judge(), 0);
        x.drop(2);
        T.due("judge() with a job less", x.judge(), 3);
        x.set(2, 6);
        x.job(0, 1, 0, 0, 7);
        T.due("judge() with another fine", x.judge(), 3);
        x.set(2, 5);
        T.due("judge() as it was", x.judge(), 0);
        x.goes();
        // One slot is left of the first job: it ends on day 1 all the same, and the others as before.
        T.due("judge() a day on", x.judge(), 0);
        x.goes();
        T.due("judge() when a job has gone", x.judge(), 1);
        x.drop(0);
        x.drop(0);
        T.due("judge() when all have gone", x.judge(), 1);
        x.prove();
        T.due("judge() of none", x.judge(), 0);
    }
}
