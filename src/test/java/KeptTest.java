/** Promises 45 and 46: kept. */
public final class KeptTest {
    private static final Due T = new Due("KeptTest");

    public static void main(String[] args) {
        nothingKept();
        comesBack();
        staysAside();
        latest();
        T.end();
    }

    private static void nothingKept() {
        T.promise(46);
        PressDays x = new PressDays();
        x.job(0, 1, 0, 0, 5);
        T.due("again() of nothing kept", x.again(), -3);
        T.due("many(0) stays", x.many(0), 1);
        T.promise(45);
        x = new PressDays();
        T.due("keep() of a new one", x.keep(), 1);
        x.job(0, 1, 0, 0, 5);
        T.due("again() of a new one", x.again(), 0);
        T.due("many(0)", x.many(0), 0);
    }

    /** Day 2, black with one setting left, three jobs by a plan, a till, laws, lost days, nights, types, z. */
    private static PressDays full() {
        PressDays x = new PressDays();
        x.set(1, 3);
        x.set(2, 6);
        x.set(3, 2);
        x.set(0, 1);
        x.job(0, 1, 0, 0, 9);
        x.job(1, 4, 1, 20, 30);
        x.job(5, 7, 0, 30, 40);
        x.goes();
        x.night(1, 1);
        x.goes();
        x.job(4, 2, 1, 25, 8);
        x.plan(0102);
        x.lose(7, 1);
        x.night(9, 4);
        x.lose(59, 1);
        x.lose(60, 1);
        x.night(59, 2);
        x.night(60, 3);
        x.type(2, 3, 1, 4, 50, 3);
        x.seed(1234);
        return x;
    }

    private static void look(PressDays x, String when) {
        int[][] job = {{1, 4, 1, 20, 30}, {5, 4, 0, 30, 40}, {4, 2, 1, 25, 8}};
        int[] order = {2, 0, 1}, press = {2, 1, 1}, type = {2, 3, 1, 4, 50, 3};
        T.due("many(0)" + when, x.many(0), 3);
        T.due("many(1)" + when, x.many(1), 1);
        for (int i = 0; i < 3; i++) {
            for (int k = 0; k < 5; k++) T.due("jobOf(" + i + ", " + k + ")" + when, x.jobOf(i, k), job[i][k]);
            T.due("planOf(" + i + ")" + when, x.planOf(i), order[i]);
            T.due("press(" + i + ")" + when, x.press(i), press[i]);
        }
        for (int k = 0; k < 6; k++) T.due("typeOf(0, " + k + ")" + when, x.typeOf(0, k), type[k]);
        T.due("till()" + when, x.till(), 9);
        T.due("slots(1)" + when, x.slots(1), 2);
        T.due("slots(7)" + when, x.slots(7), 0);
        T.due("slots(9)" + when, x.slots(9), 5);
        T.due("slots(59)" + when, x.slots(59), 2);
        T.due("slots(60)" + when, x.slots(60), 3);
        T.due("set(1, 3)" + when, x.set(1, 3), 3);
        T.due("set(2, 6)" + when, x.set(2, 6), 6);
        T.due("set(3, 2)" + when, x.set(3, 2), 2);
        T.due("seed(1234)" + when, x.seed(1234), 1234);
    }

    private static void spoil(PressDays x) {
        Due.board(x, "slots 4; fine 1; setting 1; 1 by 1 for 1;");
        x.set(3, 0);
        x.type(0, 1, 0, 0, 0, 1);
        x.comes();
        x.goes();
        x.night(9, 1);
        x.lose(3, 2);
    }

    private static void comesBack() {
        PressDays x = full();
        T.promise(45);
        look(x, " ahead of keep()");
        T.due("keep()", x.keep(), 1);
        look(x, " behind keep()");
        T.promise(46);
        for (int i = 0; i < 2; i++) {
            spoil(x);
            T.due("again()", x.again(), 3);
            look(x, " behind again()");
        }
        x.drop(0);
        T.due("again() behind a drop", x.again(), 3);
        look(x, " behind again()");
        for (int i = 0; i < 58; i++) x.goes();
        T.due("goes() on day 60", x.goes(), -4);
        T.due("again() behind many days", x.again(), 3);
        look(x, " behind again()");
        T.due("slots(3)", x.slots(3), 1);
    }

    private static void staysAside() {
        T.promise(45);
        PressDays x = full();
        x.keep();
        x.prove();
        x.drop(0);
        x.feed(0x2020, 2);
        x.sheet(2, 2, 6);
        x.put(2, 5, 66);
        x.shelf(1, 0, 1);
        x.shelf(2, 1, 2);
        x.act(1, 0, 5);
        T.due("again()", x.again(), 3);
        T.due("the tape", x.many(3), 2);
        T.due("the rows", x.many(2), 3);
        T.due("the trace", x.many(4), 2);
        T.due("the trace of an urgent one", x.trace(0), 50);
        T.due("the sheet", x.item(2, 2, 5), 66);
        T.due("the shelf of a row", x.taken(2, 12), 6);
        T.due("the shelf of a job, by its number", x.taken(1, 5), 1);
        T.due("judge()", x.judge(), 0);
    }

    private static void latest() {
        T.promise(46);
        PressDays x = new PressDays();
        x.job(0, 1, 0, 0, 5);
        x.keep();
        x.job(0, 1, 0, 0, 6);
        x.keep();
        x.drop(0);
        x.drop(0);
        T.due("again(): the latest", x.again(), 2);
        T.due("jobOf(1, 4)", x.jobOf(1, 4), 6);
        x.drop(0);
        x.keep();
        T.due("again(): the latest", x.again(), 1);
        T.due("jobOf(0, 4)", x.jobOf(0, 4), 6);
    }
}
