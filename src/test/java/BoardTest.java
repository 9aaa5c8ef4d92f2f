/** Promises 1 to 13: a new object, and the board. */
public final class BoardTest {
    private static final Due T = new Due("BoardTest");
    private static final int MIN = Integer.MIN_VALUE, MAX = Integer.MAX_VALUE;

    public static void main(String[] args) {
        anew();
        feed();
        boardReads();
        boardFaults();
        boardBegins();
        boardForgets();
        job();
        jobOf();
        drop();
        set();
        loseAndNight();
        slots();
        plan();
        press();
        T.end();
    }

    private static void anew() {
        T.promise(1);
        PressDays x = new PressDays();
        x.job(0, 1, 0, 0, 9);
        x.type(0, 1, 0, 0, 9, 4);
        x.keep();
        x = new PressDays();
        for (int what = 0; what <= 4; what++) T.due("many(" + what + ")", x.many(what), 0);
        T.due("again()", x.again(), PressDays.NONE);
        for (int what = 0; what <= 2; what++) T.due("press(" + what + ")", x.press(what), 0);
        T.due("till()", x.till(), 0);
        T.due("slots(0)", x.slots(0), 2);
        T.due("slots(60)", x.slots(60), 2);
        T.due("set(0, 1)", x.set(0, 1), 2);
        T.due("set(1, 1)", x.set(1, 1), 1);
        T.due("set(2, 1)", x.set(2, 1), 5);
        T.due("set(3, 2)", x.set(3, 2), 1);
        T.due("seed(5)", x.seed(5), 1);
        T.due("item(3, 0, 0)", x.item(3, 0, 0), -11);
        T.due("taken(3, 0)", x.taken(3, 0), -11);
        T.due("worth()", x.worth(), 0);
        T.due("row(0, 0)", x.row(0, 0), PressDays.NO);
    }

    private static void feed() {
        T.promise(2);
        PressDays x = new PressDays();
        for (int n : new int[] {0, 9, -1, MIN, MAX}) T.due("feed(0, " + n + ")", x.feed(0, n), -1);
        T.due("many(3)", x.many(3), 0);
        T.due("feed(.., 1)", x.feed(0x33, 1), 1);
        x.board();
        Due.feed(x, "3 by 2 for 12;");
        T.due("board()", x.board(), 1);
        T.due("jobOf(0, 1)", x.jobOf(0, 1), 3);
        T.due("jobOf(0, 4)", x.jobOf(0, 4), 12);
        // The eighth byte is the highest one, with the sign of the long.
        x.feed(0x8020202020202020L, 8);
        T.due("board()", x.board(), -107);
        for (int i = 1; i <= 24; i++) T.due("feed 8", x.feed(0x2020202020202020L, 8), 8 * i);
        T.due("feed 7", x.feed(0x2020202020202020L, 7), 199);
        T.due("feed 2 of 199", x.feed(0x2020L, 2), -2);
        T.due("many(3)", x.many(3), 199);
        T.due("feed 1 of 199", x.feed(0x20L, 1), 200);
        T.due("feed 1 of 200", x.feed(0x20L, 1), -2);
        T.due("BAD is ahead of FULL", x.feed(0x20L, 9), -1);
        T.due("board()", x.board(), 0);
        T.due("many(3)", x.many(3), 0);
        T.due("feed anew", x.feed(0x20L, 1), 1);
    }

    private static void boardReads() {
        T.promise(3);
        PressDays x = new PressDays();
        String kinds = "job 1 by 0 for 1;wedding 2 by 9 for 2;poster 3 by 10 for 30;"
            + "ticket 4 black by 60 for 99;urgent 5 by 05 for 00;half 9 black by 1 for 8;";
        T.due("board() of six", Due.board(x, kinds), 6);
        int[][] due = {{0, 1, 0, 0, 1}, {1, 2, 0, 9, 2}, {2, 3, 0, 10, 30}, {3, 4, 1, 60, 99}, {4, 5, 0, 5, 0},
            {5, 5, 1, 1, 8}};
        for (int i = 0; i < 6; i++) {
            for (int k = 0; k < 5; k++) T.due("jobOf(" + i + ", " + k + ")", x.jobOf(i, k), due[i][k]);
            T.due("planOf(" + i + ")", x.planOf(i), i);
        }
        T.due("no kind, no blanks", Due.board(x, "1 by 1 for 1;09 black by 2 for 3;"), 2);
        T.due("jobOf(1, 1)", x.jobOf(1, 1), 9);
        T.due("jobOf(1, 2)", x.jobOf(1, 2), 1);
        T.due("many blanks", Due.board(x, "   half   3   by   1   for   1   ;   slots   4  ; "), 1);
        T.due("slots(0)", x.slots(0), 4);
        T.due("rows as long as they go", Due.board(x, "job3black by2for4;slots1;"), 1);
        T.due("jobOf(0, 4)", x.jobOf(0, 4), 4);
        T.due("nothing", x.board(), 0);
        T.due("blanks alone", Due.board(x, "     "), 0);
        T.due("a law behind six jobs", Due.board(x, "1 by 1 for 1;1 by 1 for 1;1 by 1 for 1;1 by 1 for 1;"
            + "1 by 1 for 1;1 by 1 for 1; fine 0;"), 6);
        T.due("set(2, 0)", x.set(2, 0), 0);
    }

    private static void fault(String s, int at) {
        PressDays x = new PressDays();
        x.job(1, 2, 1, 3, 4);
        x.set(0, 3);
        x.lose(5, 1);
        x.prove();
        T.due("board() of \"" + s + "\"", Due.board(x, s), -100 - at);
        T.due("many(0)", x.many(0), 1);
        T.due("many(2)", x.many(2), 1);
        T.due("many(3)", x.many(3), 0);
        T.due("jobOf(0, 4)", x.jobOf(0, 4), 4);
        T.due("slots(5)", x.slots(5), 2);
        T.due("slots(6)", x.slots(6), 3);
        T.due("tape is used up", x.board(), 0);
    }

    private static void boardFaults() {
        T.promise(3);
        fault("card 3 by 2 for 1;", 0);
        fault("jobs 3 by 2 for 1;", 0);
        fault("jobz 3 by 2 for 1;", 0);
        fault("kob 3 by 2 for 1;", 0);
        fault("zlots 3;", 0);
        fault("  Job 3 by 2 for 1;", 2);
        fault("by 3", 0);
        fault("black 3 by 1 for 1;", 0);
        fault(";", 0);
        fault("\u00e9", 0);
        fault("\t3 by 2 for 1;", 0);
        fault("job job 3 by 2 for 1;", 4);
        fault("job 0 by 2 for 1;", 4);
        fault("job 10 by 2 for 1;", 4);
        fault("job 003 by 2 for 1;", 4);
        fault("job -3 by 2 for 1;", 4);
        fault("3 blackby 2 for 1;", 2);
        fault("3 black black by 2 for 1;", 8);
        fault("3 4 by 2 for 1;", 2);
        fault("3 for 2 by 1;", 2);
        fault("3 by black 2 for 1;", 5);
        fault("3 by 61 for 1;", 5);
        fault("3 by 060 for 1;", 5);
        fault("3 by 60 at 1;", 8);
        fault("3 by 60 for 100;", 12);
        fault("3 by 60 for ;", 12);
        fault("3 by 60 for 99 99;", 15);
        fault("3 by 60 for 99,", 14);
        fault("3 by 60 for 99:;", 14);
        fault("3 by 60 for 99 3 by 60 for 99;", 15);
        fault("slots 0;", 6);
        fault("slots 5;", 6);
        fault("slots 001;", 6);
        fault("slots ;", 6);
        fault("slots slots;", 6);
        fault("fine 100;", 5);
        fault("setting 4;", 8);
        fault("setting 3 3;", 10);
        fault("odds 1;", 0);
        fault("slots 2; ;", 9);
        fault("slots 1; fine 7; setting 0; 2 by 1 for 1; 3 by 1 for 1", 54);
        fault("slots", 5);
        fault("slots  ", 7);
        fault("slots 2", 7);
        fault("job ", 4);
        fault("job 3", 5);
        fault("3 black", 7);
        fault("3 by", 4);
        fault("3 by 2 ", 7);
        fault("3 by 2 for", 10);
        fault("3 by 2 for 1  ", 14);
        String six = "1 by 1 for 1;1 by 1 for 1;1 by 1 for 1;1 by 1 for 1;1 by 1 for 1;1 by 1 for 1;";
        fault(six + " wedding 3 by 1 for 1;", 79);
        fault(six + " 3", 79);
        fault(six + "x", 78);
        fault(six + " slots 1; 1 by 1 for 1;", 88);
    }

    private static void boardBegins() {
        T.promise(3);
        PressDays x = new PressDays();
        x.job(0, 1, 1, 0, 9);
        x.job(0, 3, 1, 0, 9);
        x.plan(1);
        x.set(1, 2);
        x.set(3, 3);
        x.type(0, 1, 0, 0, 9, 4);
        x.goes();
        x.plan(8);
        x.goes();
        x.goes();
        x.lose(3, 1);
        x.night(4, 2);
        x.seed(77);
        x.prove();
        T.due("till() ahead", x.till() != 0 ? 1 : 0, 1);
        T.due("board()", Due.board(x, "fine 3; slots 1; 2 by 1 for 5; fine 4; slots 3;"), 1);
        for (int what = 0; what <= 2; what++) T.due("press(" + what + ")", x.press(what), 0);
        T.due("till()", x.till(), 0);
        T.due("slots(3)", x.slots(3), 3);
        T.due("slots(4)", x.slots(4), 3);
        T.due("many(1)", x.many(1), 1);
        T.due("many(2)", x.many(2), 0);
        T.due("planOf(0)", x.planOf(0), 0);
        T.due("planOf(1)", x.planOf(1), -1);
        T.due("set(1, 0)", x.set(1, 0), 2);
        T.due("set(2, 0)", x.set(2, 0), 4);
        T.due("set(3, 0)", x.set(3, 0), 3);
        T.due("seed(0)", x.seed(0), 77);
    }

    private static void boardForgets() {
        T.promise(3);
        PressDays x = new PressDays();
        for (int day : new int[] {0, 60}) {
            x.lose(day, 1);
            x.night(day, 3);
        }
        x.set(0, 1);
        x.lose(0, 0);
        x.night(0, 0);
        x.job(0, 1, 1, 0, 1);
        x.job(0, 1, 1, 0, 1);
        x.set(1, 3);
        x.plan(1);
        x.goes();
        x.lose(0, 1);
        x.night(0, 3);
        T.due("press(2) ahead", x.press(2), 2);
        T.due("planOf(0) ahead", x.planOf(0), 1);
        T.due("prove()", x.prove(), 2);
        T.due("board()", Due.board(x, "slots 3; 2 by 1 for 5; 2 by 1 for 5;"), 2);
        T.due("press(2)", x.press(2), 0);
        T.due("planOf(0)", x.planOf(0), 0);
        T.due("many(2)", x.many(2), 0);
        T.due("slots(0)", x.slots(0), 3);
        T.due("slots(60)", x.slots(60), 3);
        // What an earlier text told doesn't count again, nor what one with a fault told.
        x.set(0, 1);
        T.due("board() that tells no law", Due.board(x, ""), 0);
        T.due("slots(0) stays", x.slots(0), 1);
        T.due("board() with a fault", Due.board(x, "slots 4; fine 9; setting 2; x"), -128);
        T.due("board() that tells no law", Due.board(x, ""), 0);
        T.due("slots(0) stays", x.slots(0), 1);
        T.due("set(1, 0)", x.set(1, 0), 3);
        T.due("set(2, 0)", x.set(2, 0), 5);
    }

    private static void job() {
        T.promise(4);
        PressDays x = new PressDays();
        int[][] bad = {{-1, 1, 0, 0, 0}, {6, 1, 0, 0, 0}, {0, 0, 0, 0, 0}, {0, 10, 0, 0, 0}, {0, 1, -1, 0, 0},
            {0, 1, 2, 0, 0}, {0, 1, 0, -1, 0}, {0, 1, 0, 61, 0}, {0, 1, 0, 0, -1}, {0, 1, 0, 0, 100},
            {MIN, 1, 0, 0, 0}, {0, MAX, 0, 0, 0}, {0, 1, MIN, 0, 0}, {0, 1, 0, MAX, 0}, {0, 1, 0, 0, MIN}};
        for (int[] b : bad) T.due("job(bad)", x.job(b[0], b[1], b[2], b[3], b[4]), -1);
        T.due("many(0)", x.many(0), 0);
        T.due("job(least)", x.job(0, 1, 0, 0, 0), 0);
        T.due("job(most)", x.job(5, 9, 1, 60, 99), 1);
        for (int i = 2; i < 6; i++) T.due("job", x.job(i, i, 0, i, i), i);
        T.due("job seven", x.job(0, 1, 0, 0, 0), -2);
        for (int[] b : bad) T.due("job(bad) of six", x.job(b[0], b[1], b[2], b[3], b[4]), -1);
        T.due("many(0)", x.many(0), 6);
        x.drop(0);
        T.due("job behind five", x.job(0, 1, 0, 0, 7), 5);
        T.due("last in the plan", x.planOf(5), 5);
        x.plan(0b000_001_010_011_100_101);
        x.drop(3);
        x.job(1, 1, 1, 1, 1);
        T.due("last in a plan", x.planOf(5), 5);
        T.due("first in a plan", x.planOf(0), 4);
    }

    private static void jobOf() {
        T.promise(5);
        PressDays x = new PressDays();
        T.due("jobOf(0, 0) of none", x.jobOf(0, 0), -1);
        for (int slots = 1; slots <= 6; slots++) x.job(5, slots, 1, 10 + slots, 20 + slots);
        int[] rest = {1, 1, 2, 2, 3, 3};
        for (int i = 0; i < 6; i++) {
            T.due("kind", x.jobOf(i, 0), 5);
            T.due("rest of a half", x.jobOf(i, 1), rest[i]);
            T.due("colour", x.jobOf(i, 2), 1);
            T.due("by", x.jobOf(i, 3), 11 + i);
            T.due("price", x.jobOf(i, 4), 21 + i);
        }
        for (int what : new int[] {-1, 5, MIN, MAX}) T.due("jobOf(0, " + what + ")", x.jobOf(0, what), -1);
        for (int job : new int[] {-1, 6, MIN, MAX}) T.due("jobOf(" + job + ", 0)", x.jobOf(job, 0), -1);
        x.drop(5);
        T.due("jobOf(5, 0) of five", x.jobOf(5, 0), -1);
        x.job(1, 9, 0, 0, 0);
        T.due("rest of a wedding", x.jobOf(5, 1), 9);
        x.plan(0b000_001_010_011_100_101);
        x.goes();
        T.due("rest behind a day", x.jobOf(5, 1), 7);
    }

    private static void drop() {
        T.promise(6);
        PressDays x = new PressDays();
        T.due("drop(0) of none", x.drop(0), -1);
        for (int i = 0; i < 4; i++) x.job(i, i + 1, 0, 30, 10 * i);
        x.plan(1 + 8 * 3 + 64 * 0 + 512 * 2);
        for (int job : new int[] {-1, 4, MIN, MAX}) T.due("drop(" + job + ")", x.drop(job), -1);
        T.due("drop(1)", x.drop(1), 3);
        T.due("till()", x.till(), 0);
        int[] price = {0, 20, 30}, order = {2, 0, 1};
        for (int i = 0; i < 3; i++) {
            T.due("jobOf(" + i + ", 4)", x.jobOf(i, 4), price[i]);
            T.due("planOf(" + i + ")", x.planOf(i), order[i]);
        }
        T.due("jobOf(2, 1)", x.jobOf(2, 1), 4);
        T.due("drop(2)", x.drop(2), 2);
        T.due("planOf(0)", x.planOf(0), 0);
        T.due("planOf(2)", x.planOf(2), -1);
        T.due("drop(0)", x.drop(0), 1);
        T.due("jobOf(0, 0)", x.jobOf(0, 0), 2);
        T.due("drop(0)", x.drop(0), 0);
        T.due("drop(0)", x.drop(0), -1);
    }

    private static void set() {
        T.promise(7);
        PressDays x = new PressDays();
        int[] least = {1, 0, 0, 0}, most = {4, 3, 99, 4}, first = {2, 1, 5, 1};
        for (int law = 0; law < 4; law++) {
            T.due("set below", x.set(law, least[law] - 1), -1);
            T.due("set above", x.set(law, most[law] + 1), -1);
            T.due("set far", x.set(law, MIN), -1);
            T.due("set far", x.set(law, MAX), -1);
            T.due("set least of " + law, x.set(law, least[law]), first[law]);
            T.due("set most of " + law, x.set(law, most[law]), least[law]);
            T.due("set again " + law, x.set(law, most[law]), most[law]);
        }
        for (int law : new int[] {-1, 4, MIN, MAX}) T.due("set(" + law + ", 1)", x.set(law, 1), -1);
        T.due("slots(0)", x.slots(0), 4);
        T.due("slots(99)", x.slots(99), 4);
    }

    private static void loseAndNight() {
        PressDays x = new PressDays();
        for (int day : new int[] {0, 60}) {
            T.promise(8);
            T.due("lose(" + day + ", 9)", x.lose(day, 9), 0);
            T.due("lose(" + day + ", 1)", x.lose(day, 1), 9);
            T.due("slots(" + day + ")", x.slots(day), 1);
            T.promise(9);
            T.due("night(" + day + ", 9)", x.night(day, 9), 0);
            T.due("night(" + day + ", 3)", x.night(day, 3), 9);
            T.due("slots(" + day + ")", x.slots(day), 4);
        }
        for (int day : new int[] {-1, 61, MIN, MAX}) {
            T.promise(8);
            T.due("lose(" + day + ", 1)", x.lose(day, 1), -1);
            T.promise(9);
            T.due("night(" + day + ", 1)", x.night(day, 1), -1);
        }
        for (int n : new int[] {-1, 10, MIN, MAX}) {
            T.promise(8);
            T.due("lose(0, " + n + ")", x.lose(0, n), -1);
            T.promise(9);
            T.due("night(0, " + n + ")", x.night(0, n), -1);
        }
        T.promise(8);
        T.due("lose(0, 0)", x.lose(0, 0), 1);
        T.promise(9);
        T.due("night(0, 0)", x.night(0, 0), 3);
        T.due("slots(0)", x.slots(0), 2);
        T.due("slots(1)", x.slots(1), 2);
    }

    private static void slots() {
        T.promise(10);
        PressDays x = new PressDays();
        x.set(0, 3);
        x.lose(7, 2);
        x.lose(8, 9);
        x.night(8, 9);
        x.night(9, 1);
        x.lose(60, 3);
        int[] day = {0, 6, 7, 8, 9, 10, 59, 60, 61, 99}, due = {3, 3, 1, 9, 4, 3, 3, 0, 3, 3};
        for (int i = 0; i < day.length; i++) T.due("slots(" + day[i] + ")", x.slots(day[i]), due[i]);
        for (int d : new int[] {-1, 100, MIN, MAX}) T.due("slots(" + d + ")", x.slots(d), -1);
        x.goes();
        x.lose(0, 1);
        T.due("slots(0) on day 1", x.slots(0), 2);
    }

    private static void plan() {
        T.promise(11);
        PressDays x = new PressDays();
        T.due("plan(0) of none", x.plan(0), 1);
        T.due("plan(1) of none", x.plan(1), -1);
        T.due("plan(8) of none", x.plan(8), -1);
        T.due("plan(-1) of none", x.plan(-1), -1);
        x.job(0, 1, 0, 0, 1);
        T.due("plan(0) of one", x.plan(0), 1);
        T.due("plan(8) of one", x.plan(8), -1);
        x.job(0, 1, 0, 0, 1);
        x.job(0, 1, 0, 0, 1);
        T.due("plan(0102)", x.plan(0102), 1);
        int[] order = {2, 0, 1};
        T.promise(12);
        for (int i = 0; i < 3; i++) T.due("planOf(" + i + ")", x.planOf(i), order[i]);
        T.promise(11);
        for (int bad : new int[] {0, 0112, 0103, 0201 + 01000, 0201 + 07000, 011, MIN, MAX, MIN + 0102, -1, 0102 + (1 << 30)}) {
            T.due("plan(" + bad + ")", x.plan(bad), -1);
        }
        T.promise(12);
        for (int i = 0; i < 3; i++) T.due("planOf(" + i + ")", x.planOf(i), order[i]);
        for (int i : new int[] {-1, 3, MIN, MAX}) T.due("planOf(" + i + ")", x.planOf(i), -1);
        T.promise(11);
        for (int i = 0; i < 3; i++) x.job(0, 1, 0, 0, 1);
        T.due("plan(of six)", x.plan(0123451), -1);
        T.due("plan(of six)", x.plan(0012345), 1);
        T.due("plan(of six)", x.plan(0543210), 1);
        T.due("plan(more)", x.plan(01543210), -1);
        T.due("plan(more)", x.plan(0543216), -1);
        T.promise(12);
        for (int i = 0; i < 6; i++) T.due("planOf(" + i + ")", x.planOf(i), i);
    }

    private static void press() {
        T.promise(13);
        PressDays x = new PressDays();
        x.set(0, 1);
        x.set(1, 3);
        x.job(0, 1, 1, 0, 1);
        x.job(0, 9, 0, 0, 1);
        x.lose(0, 1);
        int[][] due = {{0, 0, 0}, {1, 0, 0}, {2, 1, 2}, {3, 1, 1}, {4, 1, 0}, {5, 1, 0}, {6, 0, 2}};
        for (int[] d : due) {
            for (int what = 0; what < 3; what++) T.due("press(" + what + ") on day " + d[0], x.press(what), d[what]);
            x.goes();
        }
        for (int what : new int[] {-1, 3, MIN, MAX}) T.due("press(" + what + ")", x.press(what), -1);
    }
}
