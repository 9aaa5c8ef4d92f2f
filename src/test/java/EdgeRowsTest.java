/** Promises 33 to 36 at their edges, sentence by sentence. */
public final class EdgeRowsTest {
    private static final Due T = new Due("EdgeRowsTest");
    private static final int MIN = Due.MIN, MAX = Due.MAX, NO = PressDays.NO;

    public static void main(String[] args) {
        rowsOfEach();
        rowsOfKinds();
        rowsStay();
        alterAny();
        jobsTold();
        dayAndWorth();
        anyOrder();
        jobsLeft();
        fromNowOn();
        T.end();
    }

    /** One a day, each in time: rows (i, i, 10 + i). */
    private static PressDays jobs(int n) {
        PressDays x = Due.press(1, 0);
        for (int i = 0; i < n; i++) x.job(0, 1, 0, i, 10 + i);
        return x;
    }

    private static void look(PressDays x, int n) {
        for (int i = 0; i < 6; i++) {
            for (int k = 0; k < 3; k++) {
                int due = i >= n ? NO : k == 2 ? 10 + i : i;
                T.promise(34);
                T.due("row(" + i + ", " + k + ") of " + n, x.row(i, k), due);
                T.promise(35);
                int v = due == NO ? 5 : due;
                T.due("alterRow(" + i + ", " + k + ", " + v + ") of " + n, x.alterRow(i, k, v), due);
            }
        }
        for (int i : new int[] {-1, n, MIN, MAX}) {
            T.promise(34);
            T.due("row(" + i + ", 0) of " + n, x.row(i, 0), NO);
            T.promise(35);
            T.due("alterRow(" + i + ", 0, 5) of " + n, x.alterRow(i, 0, 5), NO);
        }
        for (int k : new int[] {-1, 3, MIN, MAX}) {
            T.promise(34);
            T.due("row(0, " + k + ") of " + n, x.row(0, k), NO);
            T.promise(35);
            T.due("alterRow(0, " + k + ", 5) of " + n, x.alterRow(0, k, 5), NO);
        }
    }

    /** "ROWS of BEST: how many": from none to six; "there is none such". */
    private static void rowsOfEach() {
        for (int n = 0; n <= 6; n++) {
            PressDays x = jobs(n);
            T.promise(44);
            T.due("many(2) ahead", x.many(2), 0);
            T.promise(36);
            T.due("judge() ahead, of " + n, x.judge(), n == 0 ? 0 : 222);
            T.promise(33);
            look(x, 0);
            T.promise(33);
            T.due("prove() of " + n, x.prove(), n);
            T.promise(44);
            T.due("many(2)", x.many(2), n);
            look(x, n);
            T.promise(36);
            T.due("judge() of " + n, x.judge(), 0);
        }
        // From six down to none: what was there is there no more.
        PressDays x = jobs(6);
        x.prove();
        for (int n = 5; n >= 0; n--) {
            x.drop(n);
            T.promise(33);
            T.due("prove() of " + n + " left", x.prove(), n);
            T.promise(34);
            T.due("row(" + n + ", 0)", x.row(n, 0), NO);
            T.promise(36);
            T.due("judge() of " + n + " left", x.judge(), 0);
        }
    }

    /** "(JOB, the DAY on which it ENDS, WORTH)": WORTH may be below 0. */
    private static void rowsOfKinds() {
        T.promise(33);
        int[] late = {-5, -10, 4, -1, -10, -5};
        for (int kind = 0; kind < 6; kind++) {
            PressDays x = Due.press(1, 3);
            x.lose(60, 1);
            for (int day = 0; day < 60; day++) x.goes();
            x.job(kind, 2, 1, 60, 9);
            T.due("prove()", x.prove(), 1);
            // A half takes one slot: days 61 to 63 for the setting, then 64; another one takes two.
            T.due("row(0, 0)", x.row(0, 0), 0);
            T.due("row(0, 1) of kind " + kind, x.row(0, 1), kind == 5 ? 64 : 65);
            T.due("row(0, 2) of kind " + kind, x.row(0, 2), late[kind]);
        }
    }

    /** Rows stay as they are, whatever becomes of the board, until prove() or board(). */
    private static void rowsStay() {
        T.promise(34);
        PressDays x = jobs(3);
        x.keep();
        x.prove();
        x.goes();
        x.drop(0);
        x.drop(0);
        x.set(2, 9);
        x.again();
        x.best(1);
        x.plan(0012);
        x.drop(2);
        look(x, 3);
        T.promise(3);
        T.due("board() with a fault", Due.board(x, "x"), -100);
        look(x, 3);
        T.promise(3);
        T.due("board()", Due.board(x, "1 by 0 for 10;"), 1);
        T.due("many(2)", x.many(2), 0);
        look(x, 0);
        T.promise(33);
        T.due("prove()", x.prove(), 1);
        look(x, 1);
    }

    /** "It becomes v: what it was": any v, NO among them. */
    private static void alterAny() {
        T.promise(35);
        int[] values = {0, -1, 1, MIN, MAX, 222, NO + 1, 7};
        for (int i = 0; i < 6; i++) {
            for (int k = 0; k < 3; k++) {
                PressDays x = jobs(6);
                x.prove();
                int was = k == 2 ? 10 + i : i;
                for (int v : values) {
                    T.due("alterRow(" + i + ", " + k + ", " + v + ")", x.alterRow(i, k, v), was);
                    T.due("row(" + i + ", " + k + ")", x.row(i, k), v);
                    was = v;
                }
                x.alterRow(i, k, k == 2 ? 10 + i : i);
                T.due("judge() as it was", x.judge(), 0);
            }
        }
    }

    /** "one that tells a JOB that no ROW ahead tells". */
    private static void jobsTold() {
        T.promise(36);
        for (int i = 0; i < 6; i++) {
            for (int job : new int[] {-1, 6, 7, 31, 32, 64, MIN, MAX, MIN + i, i + 32, i - 32}) {
                PressDays x = jobs(6);
                x.prove();
                x.alterRow(i, 0, job);
                T.due("judge() of row " + i + " that tells job " + job, x.judge(), i + 1);
            }
        }
        // All jobs alike, so that day and worth are right whichever job a row tells.
        for (int i = 0; i < 6; i++) {
            for (int job = 0; job < 6; job++) {
                PressDays x = Due.press(1, 0);
                for (int k = 0; k < 6; k++) x.job(0, 1, 0, 60, 5);
                x.prove();
                x.alterRow(i, 0, job);
                T.due("judge() of row " + i + " that tells job " + job + " again", x.judge(), i == job ? 0 : Math.max(i, job) + 1);
            }
        }
    }

    /** "and its DAY, WORTH": one more or less is wrong; of several the first row that is. */
    private static void dayAndWorth() {
        T.promise(36);
        for (int i = 0; i < 6; i++) {
            for (int k = 1; k < 3; k++) {
                PressDays x = jobs(6);
                x.prove();
                int was = x.row(i, k);
                for (int v : new int[] {was - 1, was + 1, MIN, MAX, was + 256}) {
                    x.alterRow(i, k, v);
                    T.due("judge() of row " + i + ", " + k + " that is " + v, x.judge(), i + 1);
                }
                x.alterRow(5, 1, 99);
                T.due("judge(): the first that is wrong", x.judge(), i + 1);
                x.alterRow(0, 2, 99);
                T.due("judge(): the first that is wrong", x.judge(), 1);
                x.prove();
                T.due("judge() of rows anew", x.judge(), 0);
            }
        }
    }

    /** "in the order of ROWS": not that of the plan, nor the best. */
    private static void anyOrder() {
        T.promise(36);
        PressDays x = Due.press(2, 1);
        x.job(0, 3, 0, 1, 10);
        x.job(1, 2, 1, 2, 20);
        x.job(0, 1, 0, 0, 7);
        x.prove();
        // 1 ends on day 1 (setting, 1, 1), 2 on day 2 (1: setting, 2: 1), 0 on days 2 and 3.
        int[][] rows = {{1, 1, 20}, {2, 2, -5}, {0, 3, -5}};
        for (int i = 0; i < 3; i++) {
            for (int k = 0; k < 3; k++) x.alterRow(i, k, rows[i][k]);
        }
        T.due("judge() of 1, 2, 0", x.judge(), 0);
        x.plan(0012);
        T.due("judge() with another plan", x.judge(), 0);
        x.alterRow(1, 1, 1);
        T.due("judge() of a day too early", x.judge(), 2);
    }

    /** "if all are, but JOBS are left: 222". */
    private static void jobsLeft() {
        T.promise(36);
        for (int rows = 0; rows <= 6; rows++) {
            for (int more = 0; more <= 6 - rows; more++) {
                PressDays x = jobs(rows);
                x.prove();
                for (int i = 0; i < more; i++) x.job(0, 1, 0, 60, 1);
                T.due("judge() of " + rows + " rows, " + more + " jobs more", x.judge(), more == 0 ? 0 : 222);
                if (rows == 0) continue;
                x.alterRow(rows - 1, 1, 99);
                T.due("judge(): a wrong row is told first", x.judge(), rows);
            }
        }
        for (int left = 0; left < 6; left++) {
            PressDays x = jobs(6);
            x.prove();
            for (int i = 5; i >= left; i--) x.drop(i);
            T.due("judge() of six rows, " + left + " jobs", x.judge(), left + 1);
        }
        PressDays x = jobs(3);
        x.prove();
        x.board();
        T.due("judge() behind board()", x.judge(), 0);
        Due.board(x, "1 by 1 for 1;");
        T.due("judge() behind board() of one", x.judge(), 222);
    }

    /** "as an order from now on": by the day, the press, the laws, the slots as they are. */
    private static void fromNowOn() {
        T.promise(36);
        PressDays x = jobs(3);
        x.keep();
        x.prove();
        x.lose(1, 1);
        T.due("judge() with a day lost", x.judge(), 2);
        x.night(1, 1);
        T.due("judge() with a night for it", x.judge(), 0);
        x.set(0, 2);
        T.due("judge() with two slots", x.judge(), 2);
        x.set(0, 1);
        x.lose(2, 1);
        T.due("judge() with the last day lost", x.judge(), 3);
        x.alterRow(2, 1, 3);
        T.due("judge() of the right day", x.judge(), 3);
        x.alterRow(2, 2, -5);
        T.due("judge() of the right worth", x.judge(), 0);
        x.set(2, 6);
        T.due("judge() with another fine", x.judge(), 3);
        x.again();
        x.prove();
        x.lose(0, 1);
        x.goes();
        T.due("judge() a day on", x.judge(), 1);
        x.again();
        T.due("judge() of what was kept", x.judge(), 0);
        // A job that has been worked ends as it would have.
        x = Due.press(1, 2);
        x.job(0, 3, 1, 60, 5);
        x.prove();
        for (int day = 0; day < 5; day++) {
            T.due("judge() on day " + day, x.judge(), 0);
            x.goes();
        }
        T.due("judge() when it is gone", x.judge(), 1);
    }
}
