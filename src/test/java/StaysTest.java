/** What stays: a refused call changes nothing, one that only tells neither, the others nothing but what they are for. */
public final class StaysTest {
    private static final Due T = new Due("StaysTest");
    private static final int MIN = Due.MIN, MAX = Due.MAX, NO = PressDays.NO;

    private interface Call {
        int ask(PressDays x);
    }

    private int jobs;
    private PressDays x;
    private Look was;

    /** An object with something of all, so many jobs among it: the one that calls are made on, and how it was. */
    private StaysTest(int promise, int jobs) {
        T.promise(promise);
        this.jobs = jobs;
        x = rich(jobs);
        was = new Look(rich(jobs));
    }

    private void due(String call, int due, Call c) {
        T.due(call, c.ask(x), due);
    }

    private void end(String calls, String... but) {
        new Look(x).compare(T, calls + " of " + jobs + " jobs", was, but);
    }

    public static void main(String[] args) {
        refusedOfBoard();
        refusedPlans();
        refusedFeed();
        refusedText();
        refusedOfWorth();
        refusedOfComers();
        refusedOfRows();
        refusedSheets();
        refusedShelves();
        refusedActs();
        refusedDayAndAgain();
        tells();
        changesOfBoard();
        changesOfText();
        changesOfComers();
        changesOfRowsAndHost();
        changesOfKept();
        T.end();
    }

    /** Day 2; the press black, one setting left; a till; all laws, some days, types, rows, sheets, shelves, a trace. */
    private static PressDays rich(int jobs) {
        PressDays x = new PressDays();
        int[] law = {1, 2, 7, 2};
        for (int i = 0; i < 4; i++) x.set(i, law[i]);
        x.type(5, 9, 1, 20, 99, 2);
        x.seed(99);
        x.lose(3, 1);
        x.night(5, 4);
        x.job(0, 1, 0, 0, 9);
        x.job(1, 9, 1, 20, 30);
        x.keep();
        x.goes();
        x.goes();
        x.comes();
        x.type(3, 2, 0, 0, 7, 1);
        x.lose(60, 1);
        x.night(2, 3);
        for (int i = 1; i < jobs; i++) x.job(i, 10 - i, i % 2, 4 * i, 11 * i);
        x.plan(jobs == 6 ? 0512340 : jobs == 5 ? 012340 : 0);
        x.prove();
        x.alterRow(1, 2, -77);
        x.sheet(0, 0, 3);
        x.put(0, 2, -5);
        x.sheet(1, 1, 1);
        x.sheet(2, 3, 40);
        x.put(2, 1, MAX);
        x.shelf(0, 0, 0);
        x.shelf(1, 1, 0);
        x.shelf(3, 0, jobs - 1);
        x.act(0, 3, 5);
        Due.feed(x, "slots 3; 2 by 3 for 44;");
        return x;
    }

    // ---- refused

    private static void refusedOfBoard() {
        StaysTest t = new StaysTest(4, 5);
        for (int[] b : Due.BAD_JOBS) t.due("job(bad)", -1, x -> x.job(b[0], b[1], b[2], b[3], b[4]));
        t.end("job(bad)");
        t = new StaysTest(4, 6);
        for (int[] b : Due.BAD_JOBS) t.due("job(bad)", -1, x -> x.job(b[0], b[1], b[2], b[3], b[4]));
        t.due("job seven", -2, x -> x.job(0, 1, 0, 0, 0));
        t.due("job seven", -2, x -> x.job(5, 9, 1, 60, 99));
        t.end("job seven");
        t = new StaysTest(5, 6);
        for (int i : Due.OUT_OF_6) t.due("jobOf(" + i + ", 0)", -1, x -> x.jobOf(i, 0));
        for (int k : new int[] {-1, 5, MIN, MAX}) t.due("jobOf(0, " + k + ")", -1, x -> x.jobOf(0, k));
        T.promise(6);
        for (int i : Due.OUT_OF_6) t.due("drop(" + i + ")", -1, x -> x.drop(i));
        T.promise(7);
        for (int law : Due.OUT_OF_4) t.due("set(" + law + ", 1)", -1, x -> x.set(law, 1));
        int[] least = {1, 0, 0, 0}, most = {4, 3, 99, 4};
        for (int law = 0; law < 4; law++) {
            int which = law;
            for (int v : new int[] {least[law] - 1, most[law] + 1, MIN, MAX}) {
                t.due("set(" + law + ", " + v + ")", -1, x -> x.set(which, v));
            }
        }
        T.promise(10);
        for (int day : new int[] {-1, 100, MIN, MAX}) t.due("slots(" + day + ")", -1, x -> x.slots(day));
        t.end("jobOf, drop, set, slots (bad)");
        t = new StaysTest(8, 6);
        for (int day : new int[] {-1, 61, MIN, MAX}) t.due("lose(" + day + ", 1)", -1, x -> x.lose(day, 1));
        for (int n : new int[] {-1, 10, MIN, MAX}) t.due("lose(3, " + n + ")", -1, x -> x.lose(3, n));
        T.promise(9);
        for (int day : new int[] {-1, 61, MIN, MAX}) t.due("night(" + day + ", 1)", -1, x -> x.night(day, 1));
        for (int n : new int[] {-1, 10, MIN, MAX}) t.due("night(5, " + n + ")", -1, x -> x.night(5, n));
        t.end("lose, night (bad)");
    }

    private static void refusedPlans() {
        StaysTest t = new StaysTest(11, 6);
        for (int digits : new int[] {0, 0543211, 0543216, 0543217, 01543210, 0143210, MIN, MAX, -1, 0543210 - (1 << 30)}) {
            t.due("plan(" + digits + ")", -1, x -> x.plan(digits));
        }
        T.promise(12);
        for (int i : Due.OUT_OF_6) t.due("planOf(" + i + ")", -1, x -> x.planOf(i));
        T.promise(13);
        for (int what : Due.OUT_OF_3) t.due("press(" + what + ")", -1, x -> x.press(what));
        t.end("plan(bad)");
    }

    private static void refusedFeed() {
        StaysTest t = new StaysTest(2, 6);
        for (int n : new int[] {0, 9, -1, MIN, MAX}) t.due("feed(.., " + n + ")", -1, x -> x.feed(0x3B3B3B3BL, n));
        t.end("feed(bad)");
        // With 193 bytes on the tape seven more may come, but not eight, and of the eight none comes.
        t.x = rich(6);
        PressDays same = rich(6);
        for (PressDays y : new PressDays[] {t.x, same}) {
            Due.feed(y, " ".repeat(192 - y.many(3)) + " ");
        }
        t.due("many(3)", 193, x -> x.many(3));
        t.due("feed 8 of 193", -2, x -> x.feed(0x3B3B3B3B3B3B3B3BL, 8));
        t.was = new Look(same);
        t.end("feed 8 of 193");
    }

    /** What a text with a fault tells is used up, and that is all. */
    private static void refusedText() {
        String[] texts = {",", "slots 4; fine 9; setting 3; 1 by 1 for 1; x", "1 by 1 for 1", "slots 5;",
            "1 by 1 for 1;1 by 1 for 1;1 by 1 for 1;1 by 1 for 1;1 by 1 for 1;1 by 1 for 1;"};
        // The tape has one job already, in 23 bytes, so that the last text tells a seventh.
        int[] faults = {0, 42, 12, 6, 65};
        for (int i = 0; i < texts.length; i++) {
            StaysTest t = new StaysTest(3, 6);
            Due.feed(t.x, " " + texts[i]);
            t.due("board() of \"" + texts[i] + "\"", -100 - 24 - faults[i], x -> x.board());
            t.due("many(3)", 0, x -> x.many(3));
            t.end("board() of \"" + texts[i] + "\"", "tape");
        }
    }

    private static void refusedOfWorth() {
        StaysTest t = new StaysTest(14, 6);
        for (int i : Due.OUT_OF_6) t.due("ends(" + i + ")", -1, x -> x.ends(i));
        T.promise(17);
        for (int what : Due.OUT_OF_2) t.due("best(" + what + ")", NO, x -> x.best(what));
        T.promise(19);
        for (int[] b : Due.BAD_JOBS) {
            if (b[3] == 0 && b[4] == 0) t.due("soonest(bad)", -1, x -> x.soonest(b[0], b[1], b[2]));
        }
        t.due("soonest of six", -2, x -> x.soonest(0, 1, 0));
        T.promise(20);
        for (int[] b : Due.BAD_JOBS) t.due("gain(bad)", NO, x -> x.gain(b[0], b[1], b[2], b[3], b[4]));
        t.due("gain of six", NO, x -> x.gain(0, 1, 0, 0, 0));
        T.promise(21);
        for (int what : Due.OUT_OF_2) t.due("across(" + what + ")", NO, x -> x.across(what));
        T.promise(22);
        t.due("nights()", -3, x -> x.nights());
        T.promise(23);
        for (int part : Due.OUT_OF_2) t.due("sure(" + part + ")", -1, x -> x.sure(part));
        T.promise(24);
        for (int what : Due.OUT_OF_3) t.due("safest(" + what + ")", -1, x -> x.safest(what));
        T.promise(25);
        for (int part : Due.OUT_OF_2) t.due("mean(" + part + ")", NO, x -> x.mean(part));
        t.end("what it is worth (refused)");
        t = new StaysTest(19, 5);
        t.due("soonest where some are late anyway", -3, x -> x.soonest(0, 1, 0));
        t.end("soonest(..) = NONE");
    }

    private static void refusedOfComers() {
        StaysTest t = new StaysTest(26, 6);
        int[][] bad = {{-1, 1, 0, 0, 0, 1}, {6, 1, 0, 0, 0, 1}, {0, 0, 0, 0, 0, 1}, {0, 10, 0, 0, 0, 1},
            {0, 1, -1, 0, 0, 1}, {0, 1, 2, 0, 0, 1}, {0, 1, 0, -1, 0, 1}, {0, 1, 0, 21, 0, 1}, {0, 1, 0, 0, -1, 1},
            {0, 1, 0, 0, 100, 1}, {0, 1, 0, 0, 0, 0}, {0, 1, 0, 0, 0, 5}, {0, 1, 0, 0, 0, MIN}, {0, 1, 0, 0, 0, MAX}};
        for (int[] b : bad) t.due("type(bad)", -1, x -> x.type(b[0], b[1], b[2], b[3], b[4], b[5]));
        for (int odds = 2; odds <= 4; odds++) {
            int more = odds;
            t.due("type of odds " + odds + " more", -4, x -> x.type(0, 1, 0, 0, 0, more));
        }
        T.promise(27);
        for (int i : new int[] {-1, 2, MIN, MAX}) t.due("typeOf(" + i + ", 0)", -1, x -> x.typeOf(i, 0));
        for (int k : Due.OUT_OF_6) t.due("typeOf(0, " + k + ")", -1, x -> x.typeOf(0, k));
        T.promise(28);
        for (int n : Due.OUT_OF_4) t.due("ahead(" + n + ", 0)", NO, x -> x.ahead(n, 0));
        for (int part : Due.OUT_OF_2) t.due("ahead(0, " + part + ")", NO, x -> x.ahead(0, part));
        t.due("ahead(0, 0) of six", NO, x -> x.ahead(0, 0));
        t.end("who may come (refused)");
        // Three types of one each: a fourth is one too many; with two more odds that is told first.
        PressDays[] three = new PressDays[2];
        for (int i = 0; i < 2; i++) {
            three[i] = new PressDays();
            for (int k = 0; k < 3; k++) three[i].type(k, 1 + k, 0, k, k, 1);
        }
        T.promise(26);
        T.due("type four", three[0].type(0, 1, 0, 0, 0, 1), -2);
        T.due("type four of odds 2", three[0].type(0, 1, 0, 0, 0, 2), -4);
        new Look(three[0]).compare(T, "type four", new Look(three[1]));
    }

    private static void refusedOfRows() {
        StaysTest t = new StaysTest(34, 6);
        for (int i : Due.OUT_OF_6) t.due("row(" + i + ", 0)", NO, x -> x.row(i, 0));
        for (int k : Due.OUT_OF_3) t.due("row(0, " + k + ")", NO, x -> x.row(0, k));
        T.promise(35);
        for (int i : Due.OUT_OF_6) t.due("alterRow(" + i + ", 0, 5)", NO, x -> x.alterRow(i, 0, 5));
        for (int k : Due.OUT_OF_3) {
            for (int i = 0; i < 6; i++) {
                int row = i;
                t.due("alterRow(" + i + ", " + k + ", 5)", NO, x -> x.alterRow(row, k, 5));
            }
        }
        t.end("rows (refused)");
    }

    private static void refusedSheets() {
        StaysTest t = new StaysTest(37, 6);
        for (int i : Due.OUT_OF_4) t.due("sheet(" + i + ", 0, 1)", -1, x -> x.sheet(i, 0, 1));
        for (int i : Due.OUT_OF_4) t.due("sheet(" + i + ", -1, 1)", -1, x -> x.sheet(i, -1, 1));
        for (int sort : new int[] {-2, 4, MIN, MAX}) t.due("sheet(0, " + sort + ", 1)", -1, x -> x.sheet(0, sort, 1));
        for (int i = 0; i < 4; i++) {
            int sheet = i;
            for (int n : new int[] {41, MAX}) t.due("sheet(" + i + ", 0, " + n + ")", -1, x -> x.sheet(sheet, 0, n));
            for (int n : new int[] {-1, MIN}) t.due("sheet(" + i + ", 3, " + n + ")", -14, x -> x.sheet(sheet, 3, n));
        }
        T.promise(38);
        for (int i : Due.OUT_OF_4) t.due("put(" + i + ", 0, 1)", -1, x -> x.put(i, 0, 1));
        t.due("put(3, 0, 1) of missing", -11, x -> x.put(3, 0, 1));
        for (int i : Due.OUT_OF_3) t.due("put(0, " + i + ", 1)", -12, x -> x.put(0, i, 1));
        t.due("put(1, 1, 1)", -12, x -> x.put(1, 1, 1));
        t.due("put(2, 40, 1)", -12, x -> x.put(2, 40, 1));
        T.promise(39);
        for (int i : Due.OUT_OF_4) t.due("item(" + i + ", 0, 0)", -1, x -> x.item(i, 0, 0));
        for (int sort : Due.OUT_OF_4) t.due("item(0, " + sort + ", 0)", -1, x -> x.item(0, sort, 0));
        t.due("item(3, 0, 0) of missing", -11, x -> x.item(3, 0, 0));
        t.due("item(0, 1, 3) of bytes", -13, x -> x.item(0, 1, 3));
        t.due("item(0, 0, 3) of three", -12, x -> x.item(0, 0, 3));
        t.end("sheet, put, item (refused)");
    }

    private static void refusedShelves() {
        StaysTest t = new StaysTest(40, 6);
        for (int i : Due.OUT_OF_4) {
            for (int what = 0; what < 3; what++) {
                int is = what;
                t.due("shelf(" + i + ", " + what + ", 0)", -1, x -> x.shelf(i, is, 0));
            }
        }
        for (int what : Due.OUT_OF_3) t.due("shelf(0, " + what + ", 0)", -1, x -> x.shelf(0, what, 0));
        for (int n : Due.OUT_OF_6) t.due("shelf(0, 0, " + n + ")", -1, x -> x.shelf(0, 0, n));
        for (int n : Due.OUT_OF_4) t.due("shelf(1, 1, " + n + ")", -1, x -> x.shelf(1, 1, n));
        T.promise(41);
        for (int i : Due.OUT_OF_4) t.due("taken(" + i + ", 0)", -1, x -> x.taken(i, 0));
        for (int as : new int[] {-1, 6, 9, 14, MIN, MAX}) t.due("taken(2, " + as + ")", -1, x -> x.taken(2, as));
        for (int as : new int[] {0, 5, 10, 13}) t.due("taken(2, " + as + ")", -11, x -> x.taken(2, as));
        t.due("taken(1, 13) of bytes", -13, x -> x.taken(1, 13));
        T.promise(43);
        for (int i : new int[] {-1, 4, 29, 30, MIN, MAX}) t.due("trace(" + i + ")", -3, x -> x.trace(i));
        T.promise(44);
        for (int what : new int[] {-1, 5, MIN, MAX}) t.due("many(" + what + ")", -1, x -> x.many(what));
        t.end("shelf, taken, trace, many (refused)");
    }

    private static void refusedActs() {
        for (int shelf : Due.OUT_OF_4) actOfNothing(shelf, 0);
        for (int act : Due.OUT_OF_4) actOfNothing(0, act);
        actOfNothing(1, 0);
        actOfNothing(2, 3);
        // Its price is its number: a body has begun, but there is nothing to answer.
        StaysTest t = new StaysTest(42, 1);
        t.due("drop(0)", 0, x -> x.drop(0));
        t.due("job", 0, x -> x.job(0, 1, 0, 0, 0));
        t.due("act(0, 2, 5)", -15, x -> x.act(0, 2, 5));
        t.end("act(0, 2, 5)", "trace", "job", "shelf");
    }

    private static void actOfNothing(int shelf, int act) {
        StaysTest t = new StaysTest(42, 6);
        t.due("act(" + shelf + ", " + act + ", 5)", 0, x -> x.act(shelf, act, 5));
        t.due("many(4): no trace then", 0, x -> x.many(4));
        t.due("trace(0): no trace then", -3, x -> x.trace(0));
        t.end("act(" + shelf + ", " + act + ", 5)", "trace");
    }

    private static void refusedDayAndAgain() {
        T.promise(31);
        PressDays[] last = {rich(5), rich(5)};
        for (PressDays x : last) {
            while (x.press(0) < 59) x.goes();
            T.due("goes() on day 59", x.goes() >= 0 ? 1 : 0, 1);
            x.job(1, 1, 0, 0, 5);
        }
        for (int i = 0; i < 3; i++) T.due("goes() on day 60", last[0].goes(), -4);
        new Look(last[0]).compare(T, "goes() on day 60", new Look(last[1]));
        T.promise(46);
        PressDays[] unkept = {new PressDays(), new PressDays()};
        for (PressDays x : unkept) {
            x.job(3, 2, 1, 5, 9);
            x.prove();
        }
        T.due("again() of nothing kept", unkept[0].again(), -3);
        new Look(unkept[0]).compare(T, "again() of nothing kept", new Look(unkept[1]));
    }

    // ---- only told

    private static void tells() {
        StaysTest t = new StaysTest(17, 5);
        for (int i = 0; i < 2; i++) {
            int part = i;
            Call[] calls = {x -> x.best(part), x -> x.across(part), x -> x.sure(part), x -> x.safest(part),
                x -> x.mean(part), x -> x.ahead(0, part)};
            for (Call c : calls) c.ask(t.x);
        }
        Call[] calls = {x -> x.ends(4), x -> x.late(), x -> x.worth(), x -> x.fewest(), x -> x.soonest(5, 9, 1),
            x -> x.gain(5, 9, 1, 60, 99), x -> x.nights(), x -> x.safest(2), x -> x.judge(), x -> x.slots(0)};
        for (Call c : calls) c.ask(t.x);
        t.end("calls that only tell");
        StaysTest one = new StaysTest(28, 1);
        one.x.ahead(3, 0);
        one.x.soonest(0, 1, 0);
        one.x.gain(0, 1, 0, 0, 0);
        one.end("ahead(3, 0)");
    }

    // ---- changed, and nothing else

    private static void changesOfBoard() {
        StaysTest t = new StaysTest(2, 5);
        t.due("feed(blanks)", 25, x -> x.feed(0x2020, 2));
        t.end("feed", "tape");
        t = new StaysTest(4, 5);
        t.due("job", 5, x -> x.job(2, 3, 0, 60, 1));
        t.end("job", "jobs", "job 5", "plan 5");
        t = new StaysTest(6, 6);
        t.due("drop(5)", 5, x -> x.drop(5));
        t.end("drop", "jobs", "job 5", "plan", "shelf 3");
        t = new StaysTest(7, 5);
        t.due("set(0, 4)", 1, x -> x.set(0, 4));
        t.end("set(0, 4)", "law 0", "slots");
        for (int law = 1; law < 4; law++) {
            t = new StaysTest(7, 5);
            int which = law, was = law == 2 ? 7 : 2;
            t.due("set(" + law + ", 3)", was, x -> x.set(which, 3));
            t.end("set(" + law + ", 3)", "law " + law);
        }
        t = new StaysTest(8, 5);
        t.due("lose(5, 9)", 0, x -> x.lose(5, 9));
        t.end("lose(5, 9)", "lost 5", "slots 5");
        t = new StaysTest(9, 5);
        t.due("night(3, 9)", 0, x -> x.night(3, 9));
        t.end("night(3, 9)", "nights 3", "slots 3");
        t = new StaysTest(11, 5);
        t.due("plan(043210)", 1, x -> x.plan(043210));
        t.end("plan", "plan");
    }

    /** Types, odds, z stay; so do sheets, rows on shelves, the trace, and what is kept. */
    private static void changesOfText() {
        StaysTest t = new StaysTest(3, 6);
        t.due("board()", 1, x -> x.board());
        t.due("rows are gone", 0, x -> x.many(2));
        t.end("board()", "tape", "job", "plan", "press", "till", "slots", "law 0", "lost", "nights", "row", "shelf 0",
            "shelf 3");
    }

    private static void changesOfComers() {
        StaysTest t = new StaysTest(26, 6);
        t.due("type", 2, x -> x.type(4, 9, 0, 0, 99, 1));
        t.end("type", "type");
        t = new StaysTest(29, 6);
        t.x.comes();
        t.end("comes()", "z");
        t = new StaysTest(30, 6);
        t.x.seed(-7);
        t.end("seed(-7)", "z");
        t = new StaysTest(31, 6);
        t.x.goes();
        t.end("goes()", "job", "plan", "press", "till", "shelf 0", "shelf 3");
    }

    private static void changesOfRowsAndHost() {
        StaysTest t = new StaysTest(33, 6);
        t.due("prove()", 6, x -> x.prove());
        t.end("prove()", "row 1 what 2");
        t = new StaysTest(35, 6);
        t.due("alterRow(1, 2, 5)", -77, x -> x.alterRow(1, 2, 5));
        t.end("alterRow(1, 2, 5)", "row 1 what 2");
        t = new StaysTest(37, 6);
        t.due("sheet(0, 2, 1)", 1, x -> x.sheet(0, 2, 1));
        t.end("sheet(0, 2, 1): the row stays on its shelf", "sheet 0");
        t = new StaysTest(37, 6);
        t.due("sheet(0, -1, 0)", 1, x -> x.sheet(0, -1, 0));
        t.end("sheet(0, -1, 0): the row stays on its shelf", "sheet 0");
        t = new StaysTest(38, 6);
        t.due("put(2, 2, 8)", 1, x -> x.put(2, 2, 8));
        t.end("put(2, 2, 8)", "sheet 2 sort 3 item 2");
        t = new StaysTest(40, 6);
        t.due("shelf(1, 2, 0)", 1, x -> x.shelf(1, 2, 0));
        t.due("shelf(2, 1, 2)", 1, x -> x.shelf(2, 1, 2));
        t.end("shelf", "shelf 1", "shelf 2");
        t = new StaysTest(42, 6);
        t.due("act(0, 0, 5)", 5, x -> x.act(0, 0, 5));
        t.end("act", "trace");
    }

    private static void changesOfKept() {
        StaysTest t = new StaysTest(45, 6);
        t.due("keep()", 1, x -> x.keep());
        t.end("keep()", "kept");
        t = new StaysTest(46, 6);
        t.due("again()", 2, x -> x.again());
        // The tape, rows, sheets, rows on shelves and the trace stay.
        t.end("again()", "job", "plan", "press", "till", "slots", "law", "lost", "nights", "type", "z", "shelf 0", "shelf 3");
    }
}
