/** Promises 37 to 44 at their edges, sentence by sentence. */
public final class EdgeHostTest {
    private static final Due T = new Due("EdgeHostTest");
    private static final int MIN = Due.MIN, MAX = Due.MAX;

    public static void main(String[] args) {
        sheetSizes();
        sheetAnew();
        missingSheets();
        firstNamedOfSheets();
        places();
        narrowed();
        lowItems();
        jobsOnShelves();
        rowsOnShelves();
        firstNamedOfShelves();
        kindsTaken();
        numbersOfThings();
        actNumbers();
        xWraps();
        partedBy0();
        quotients();
        traceOfLatest();
        counts();
        T.end();
    }

    /** "a row of n of a sort": 0 to 40; "n above 40"; "-14 a size below 0". */
    private static void sheetSizes() {
        for (int sheet = 0; sheet < 4; sheet++) {
            for (int sort = 0; sort < 4; sort++) {
                for (int n : new int[] {0, 1, 2, 39, 40}) {
                    PressDays x = new PressDays();
                    T.promise(37);
                    for (int v : new int[] {41, 42, MAX}) T.due("sheet of " + v, x.sheet(sheet, sort, v), -1);
                    for (int v : new int[] {-1, -2, MIN}) T.due("sheet of " + v, x.sheet(sheet, sort, v), -14);
                    T.due("still missing", x.item(sheet, sort, 0), -11);
                    T.due("sheet(" + sheet + ", " + sort + ", " + n + ")", x.sheet(sheet, sort, n), 1);
                    T.promise(38);
                    T.due("put at " + n, x.put(sheet, n, 5), -12);
                    T.due("put at -1", x.put(sheet, -1, 5), -12);
                    for (int i = 0; i < n; i++) T.due("put at " + i, x.put(sheet, i, i + 1), 1);
                    T.promise(39);
                    for (int i = 0; i < n; i++) T.due("item at " + i, x.item(sheet, sort, i), i + 1);
                    T.due("item at " + n, x.item(sheet, sort, n), -12);
                    T.due("item at -1", x.item(sheet, sort, -1), -12);
                    T.promise(41);
                    x.shelf(3, 1, sheet);
                    T.due("taken of " + n, x.taken(3, 10 + sort), n);
                }
            }
        }
    }

    /** "all 0": also what another row has left behind, a longer one and one of another sort. */
    private static void sheetAnew() {
        T.promise(37);
        for (int sort = 0; sort < 4; sort++) {
            PressDays x = new PressDays();
            x.sheet(1, 2, 40);
            for (int i = 0; i < 40; i++) x.put(1, i, -1 - i);
            T.due("sheet of 40 anew", x.sheet(1, sort, 40), 1);
            for (int i = 0; i < 40; i++) T.due("item " + i + " is 0", x.item(1, sort, i), 0);
            x.put(1, 39, 9);
            T.due("sheet of 1", x.sheet(1, sort, 1), 1);
            T.due("item 39 is outside", x.item(1, sort, 39), -12);
            x.sheet(1, sort, 40);
            T.due("item 39 is 0", x.item(1, sort, 39), 0);
        }
        // The four sheets are apart from each other.
        PressDays x = new PressDays();
        for (int sheet = 0; sheet < 4; sheet++) {
            x.sheet(sheet, 2, 40);
            for (int i = 0; i < 40; i++) x.put(sheet, i, 100 * sheet + i);
        }
        x.sheet(2, 2, 40);
        for (int sheet = 0; sheet < 4; sheet++) {
            for (int i : new int[] {0, 1, 38, 39}) {
                T.due("item(" + sheet + ", 2, " + i + ")", x.item(sheet, 2, i), sheet == 2 ? 0 : 100 * sheet + i);
            }
        }
    }

    /** "or missing (sort -1; n counts nothing then)". */
    private static void missingSheets() {
        T.promise(37);
        for (int sheet = 0; sheet < 4; sheet++) {
            PressDays x = new PressDays();
            for (int n : new int[] {MIN, -1, 0, 1, 40, 41, MAX}) {
                T.due("sheet that is missing becomes missing", x.sheet(sheet, -1, n), 1);
                x.sheet(sheet, 3, 2);
                T.due("item", x.item(sheet, 3, 1), 0);
                T.due("sheet(" + sheet + ", -1, " + n + ")", x.sheet(sheet, -1, n), 1);
                for (int sort = 0; sort < 4; sort++) T.due("item of missing", x.item(sheet, sort, 0), -11);
                T.due("put of missing", x.put(sheet, 0, 1), -11);
            }
            for (int sort : new int[] {-2, 4, MIN, MAX}) T.due("sheet of sort " + sort, x.sheet(sheet, sort, 0), -1);
        }
    }

    /** "of several the first named". */
    private static void firstNamedOfSheets() {
        PressDays x = new PressDays();
        x.sheet(1, 0, 2);
        T.promise(37);
        T.due("no such sheet, a size below 0", x.sheet(4, 0, -1), -1);
        T.due("no such sort, a size below 0", x.sheet(0, 4, -1), -1);
        T.due("no such sort, a size below 0", x.sheet(0, -2, MIN), -1);
        T.promise(38);
        T.due("no such sheet, a place outside", x.put(4, 40, 1), -1);
        T.due("missing, a place outside", x.put(0, 40, 1), -11);
        T.due("missing, a place outside", x.put(0, -1, 1), -11);
        T.promise(39);
        T.due("no such sheet or sort", x.item(-1, -1, -1), -1);
        T.due("no such sort, missing", x.item(0, 4, 0), -1);
        T.due("no such sort, a place outside", x.item(1, -1, 9), -1);
        T.due("missing, a place outside", x.item(0, 0, 99), -11);
        T.due("another sort, a place outside", x.item(1, 1, 2), -13);
        T.due("another sort, a place outside", x.item(1, 3, MIN), -13);
        T.due("a place outside", x.item(1, 0, 2), -12);
    }

    /** "no such SHEET, sort": 0 to 3 of each. */
    private static void places() {
        PressDays x = new PressDays();
        for (int i = 0; i < 4; i++) x.sheet(i, i, 1);
        for (int i : Due.OUT_OF_4) {
            T.promise(37);
            for (int sort = -1; sort < 4; sort++) T.due("sheet(" + i + ", " + sort + ", 1)", x.sheet(i, sort, 1), -1);
            T.promise(38);
            T.due("put(" + i + ", 0, 1)", x.put(i, 0, 1), -1);
            T.promise(39);
            for (int sort = 0; sort < 4; sort++) T.due("item(" + i + ", " + sort + ", 0)", x.item(i, sort, 0), -1);
            for (int sheet = 0; sheet < 4; sheet++) T.due("item(" + sheet + ", " + i + ", 0)", x.item(sheet, i, 0), -1);
        }
        for (int sheet = 0; sheet < 4; sheet++) {
            for (int sort = 0; sort < 4; sort++) {
                T.due("item(" + sheet + ", " + sort + ", 0)", x.item(sheet, sort, 0), sheet == sort ? 0 : -13);
            }
        }
    }

    /** "narrowed to its sort": what a byte, a short still hold, and what runs over; "of longs the lowest 32 bits". */
    private static void narrowed() {
        int[] v = {-128, -129, 127, 128, 255, 256, 257, -32768, -32769, 32767, 32768, 65535, 65536, 65537, MIN, MAX, -1, 0};
        int[] asByte = {-128, 127, 127, -128, -1, 0, 1, 0, -1, -1, 0, -1, 0, 1, 0, -1, -1, 0};
        int[] asShort = {-128, -129, 127, 128, 255, 256, 257, -32768, 32767, 32767, -32768, -1, 0, 1, 0, -1, -1, 0};
        PressDays x = new PressDays();
        for (int sort = 0; sort < 4; sort++) {
            x.sheet(sort, sort, 2);
            for (int i = 0; i < v.length; i++) {
                T.promise(38);
                T.due("put(" + sort + ", 1, " + v[i] + ")", x.put(sort, 1, v[i]), 1);
                T.promise(39);
                int due = sort == 0 ? asByte[i] : sort == 1 ? asShort[i] : v[i];
                T.due("item of " + v[i] + " of sort " + sort, x.item(sort, sort, 1), due);
                T.due("item ahead of it", x.item(sort, sort, 0), 0);
            }
        }
    }

    /** "(An item may be as low as these, too.)" */
    private static void lowItems() {
        T.promise(39);
        PressDays x = new PressDays();
        for (int sort = 0; sort < 4; sort++) {
            x.sheet(sort, sort, 1);
            for (int v : new int[] {-1, -2, -3, -4, -11, -12, -13, -14, -15}) {
                x.put(sort, 0, v);
                T.due("item that is " + v, x.item(sort, sort, 0), v);
            }
        }
    }

    /** "a JOB (by its number; nothing, if there is no such one any more)". */
    private static void jobsOnShelves() {
        for (int n = 0; n <= 6; n++) {
            PressDays x = new PressDays();
            for (int i = 0; i < n; i++) x.job(0, 1, 0, 60, 10 + i);
            for (int shelf = 0; shelf < 4; shelf++) {
                T.promise(40);
                for (int job : new int[] {-1, n, MIN, MAX}) T.due("shelf of job " + job, x.shelf(shelf, 0, job), -1);
                T.promise(41);
                T.due("taken of nothing", x.taken(shelf, 0), -11);
                if (n == 0) continue;
                T.promise(40);
                T.due("shelf of job 0", x.shelf(shelf, 0, 0), 1);
                T.due("shelf of the last job", x.shelf(shelf, 0, n - 1), 1);
                T.due("shelf of one that isn't there", x.shelf(shelf, 0, n), -1);
                T.promise(41);
                T.due("taken of the last job", x.taken(shelf, 0), n - 1);
            }
            if (n == 0) continue;
            T.promise(41);
            x.drop(0);
            T.due("taken of no such one any more", x.taken(0, 0), -11);
            T.due("taken as a row of no such one any more", x.taken(0, 13), -11);
            T.promise(42);
            T.due("act of no such one any more", x.act(0, 0, 7), 0);
            T.promise(41);
            x.job(3, 1, 0, 60, 99);
            T.due("taken of one that has that number", x.taken(0, 3), n - 1);
            x.goes();
            T.due("taken of what is paid and gone", x.taken(0, 0), -11);
        }
    }

    /** "the row of SHEET n (1; nothing, if missing), nothing (2)": n counts nothing for nothing. */
    private static void rowsOnShelves() {
        PressDays x = new PressDays();
        x.job(0, 1, 0, 0, 1);
        for (int shelf = 0; shelf < 4; shelf++) {
            for (int sheet = 0; sheet < 4; sheet++) {
                T.promise(40);
                x.sheet(sheet, -1, 0);
                x.shelf(shelf, 0, 0);
                T.due("shelf of a missing sheet", x.shelf(shelf, 1, sheet), 1);
                T.promise(41);
                T.due("taken of nothing", x.taken(shelf, 0), -11);
                T.promise(40);
                x.sheet(sheet, sheet, 7 + sheet);
                T.promise(41);
                T.due("taken: still nothing", x.taken(shelf, 10 + sheet), -11);
                T.promise(40);
                T.due("shelf of a row", x.shelf(shelf, 1, sheet), 1);
                T.promise(41);
                for (int as = 10; as < 14; as++) {
                    T.due("taken as " + as, x.taken(shelf, as), as == 10 + sheet ? 7 + sheet : -13);
                }
            }
            T.promise(40);
            for (int sheet : Due.OUT_OF_4) T.due("shelf of sheet " + sheet, x.shelf(shelf, 1, sheet), -1);
            T.due("shelf of nothing", x.shelf(shelf, 2, shelf % 2 == 0 ? MIN : MAX), 1);
            T.promise(41);
            T.due("taken of nothing", x.taken(shelf, 13), -11);
        }
    }

    private static void firstNamedOfShelves() {
        PressDays x = new PressDays();
        x.job(0, 1, 0, 0, 1);
        T.promise(40);
        for (int shelf : Due.OUT_OF_4) {
            for (int what = -1; what < 4; what++) T.due("shelf(" + shelf + ", " + what + ", 0)", x.shelf(shelf, what, 0), -1);
        }
        for (int what : new int[] {-1, 3, MIN, MAX}) {
            for (int shelf = 0; shelf < 4; shelf++) T.due("shelf(" + shelf + ", " + what + ", 0)", x.shelf(shelf, what, 0), -1);
        }
        T.promise(41);
        for (int shelf : Due.OUT_OF_4) {
            for (int as : new int[] {0, 5, 10, 13}) T.due("taken(" + shelf + ", " + as + ")", x.taken(shelf, as), -1);
        }
        int[] wrong = {-1, 6, 7, 8, 9, 14, 15, MIN, MAX};
        for (int as : wrong) T.due("taken as " + as + " of nothing", x.taken(0, as), -1);
        x.shelf(0, 0, 0);
        for (int as : wrong) T.due("taken as " + as + " of a job", x.taken(0, as), -1);
        x.sheet(0, 0, 3);
        x.shelf(0, 1, 0);
        for (int as : wrong) T.due("taken as " + as + " of a row", x.taken(0, as), -1);
        for (int as = 0; as < 6; as++) {
            T.due("taken as " + as + " of a row", x.taken(0, as), -13);
            T.due("taken as " + as + " of nothing", x.taken(1, as), -11);
        }
    }

    /** "a thing of KIND as (0 to 5, or one under it)". */
    private static void kindsTaken() {
        T.promise(41);
        String[] is = {"j.....", "jw....", "j.p...", "j.pt..", "jw..u.", "j....h"};
        for (int kind = 0; kind < 6; kind++) {
            PressDays x = new PressDays();
            for (int i = 0; i < 3; i++) x.job(0, 1, 0, 0, 1);
            x.job(kind, 1, 0, 0, 1);
            for (int shelf = 0; shelf < 4; shelf++) {
                x.shelf(shelf, 0, 3);
                for (int as = 0; as < 6; as++) {
                    T.due("taken of kind " + kind + " as " + as, x.taken(shelf, as), is[kind].charAt(as) == '.' ? -13 : 3);
                }
                for (int as = 10; as < 14; as++) T.due("taken of a job as " + as, x.taken(shelf, as), -13);
            }
        }
    }

    /** "n: its number, a: its PRICE", as they are when it acts. */
    private static void numbersOfThings() {
        T.promise(42);
        PressDays x = new PressDays();
        for (int i = 0; i < 6; i++) x.job(0, 9, 0, 60, i % 2 == 0 ? 0 : 99);
        for (int i = 0; i < 6; i++) {
            x.shelf(i % 4, 0, i);
            int a = i % 2 == 0 ? 0 : 99;
            T.due("prints of " + i, x.act(i % 4, 0, 1000), 1000 + i);
            T.due("sets of " + i, x.act(i % 4, 1, 1000), 2 * (1000 + i));
            T.due("tells of " + i, x.act(i % 4, 3, 1000), 2 * (1000 + i) ^ a);
            T.due("shares of " + i, x.act(i % 4, 2, 1000), i == 0 ? -15 : 1000 / (a - i));
        }
        x.shelf(0, 0, 2);
        x.drop(2);
        T.due("shares of what is number 2 now", x.act(0, 2, 1000), 1000 / 97);
    }

    /** "0, and no TRACE then: no such SHELF, act, nothing, a row". */
    private static void actNumbers() {
        PressDays x = new PressDays();
        x.job(1, 1, 0, 0, 5);
        x.sheet(0, 0, 0);
        for (int shelf = 0; shelf < 4; shelf++) x.shelf(shelf, 0, 0);
        for (int shelf = 0; shelf < 4; shelf++) {
            for (int act : new int[] {-1, 4, MIN, MAX, 0, 1, 2, 3}) {
                T.promise(42);
                int[] due = {7, 9, 1, 9 ^ 5};
                boolean is = act >= 0 && act < 4;
                T.due("act(" + shelf + ", " + act + ", 7)", x.act(shelf, act, 7), is ? due[act] : 0);
                T.promise(43);
                int[] bodies = {1, 3, 1, 4};
                T.due("many(4)", x.many(4), is ? bodies[act] : 0);
            }
        }
        for (int shelf : Due.OUT_OF_4) {
            for (int act = 0; act < 4; act++) {
                x.act(0, 0, 7);
                T.promise(42);
                T.due("act(" + shelf + ", " + act + ", 7)", x.act(shelf, act, 7), 0);
                T.promise(43);
                T.due("no trace then", x.trace(0), -3);
            }
        }
        x.shelf(1, 1, 0);
        x.shelf(2, 2, 0);
        for (int shelf = 1; shelf < 3; shelf++) {
            for (int act = 0; act < 4; act++) {
                x.act(0, 0, 7);
                T.promise(42);
                T.due("act of a row, of nothing", x.act(shelf, act, 7), 0);
                T.promise(43);
                T.due("no trace then", x.many(4), 0);
                T.due("no trace then", x.trace(0), -3);
            }
        }
    }

    /** "ints that wrap": each kind, as number 1 with price 3, at the ends of the ints. */
    private static void xWraps() {
        T.promise(42);
        for (int kind = 0; kind < 6; kind++) {
            PressDays x = new PressDays();
            x.job(0, 1, 0, 0, 0);
            x.job(kind, 1, 0, 0, 3);
            x.shelf(0, 0, 1);
            for (int v : new int[] {MIN, MIN + 1, -1, 0, MAX - 2, MAX - 1, MAX, MAX / 2, MAX / 2 + 1, MAX / 3, MIN / 6}) {
                int printed = prints(kind, v);
                int set = printed * 2;
                if (kind == 1 || kind == 4) set = set - 3;
                if (kind == 4) set = set + prints(kind, 1);
                int shared = shares(kind, v);
                int told = set ^ 3;
                if (kind == 2 || kind == 3) told = told + shares(kind, 1);
                if (kind == 5) told = told * 2;
                int[] due = {printed, set, shared, told};
                for (int act = 0; act < 4; act++) {
                    T.due("act " + act + " of kind " + kind + " with " + v, x.act(0, act, v), due[act]);
                }
            }
        }
    }

    private static int prints(int kind, int v) {
        int printed = v + 1;
        if (kind == 2 || kind == 3) printed = printed * 3;
        if (kind == 3) printed = printed - 1;
        return kind == 4 ? -printed : printed;
    }

    private static int shares(int kind, int v) {
        if (kind == 3) return (v + 2) / 2 ^ 1;
        return kind == 5 ? v / 2 + prints(kind, 3) : v / 2;
    }

    /** "-15 if these are the same": of each number, one price below, the same, one above. */
    private static void partedBy0() {
        T.promise(42);
        for (int kind = 0; kind < 6; kind++) {
            for (int n = 0; n < 6; n++) {
                for (int a = Math.max(0, n - 1); a <= n + 1; a++) {
                    PressDays x = new PressDays();
                    for (int i = 0; i < n; i++) x.job(0, 1, 0, 0, 0);
                    x.job(kind, 1, 0, 0, a);
                    x.shelf(2, 0, n);
                    int by = a - n, shared = kind == 3 ? 102 : 100, due = shared * by;
                    if (kind == 3) due = due ^ 1;
                    if (kind == 5) due = due + a + n;
                    T.due("shares of " + n + ", price " + a + ", kind " + kind, x.act(2, 2, 100), by == 0 ? -15 : due);
                    // Only a poster and a ticket share when they tell.
                    if (by == 0) T.due("tells of kind " + kind, x.act(2, 3, 100) == -15 ? 1 : 0, kind == 2 || kind == 3 ? 1 : 0);
                    if (by == 0) T.due("prints of kind " + kind, x.act(2, 0, 100) == -15 ? 1 : 0, 0);
                    if (by == 0) T.due("sets of kind " + kind, x.act(2, 1, 100) == -15 ? 1 : 0, 0);
                }
            }
        }
    }

    /** "Quotients are cut towards 0", "the rest away". */
    private static void quotients() {
        T.promise(42);
        PressDays x = new PressDays();
        x.job(0, 1, 0, 0, 5);
        for (int i = 0; i < 4; i++) x.job(0, 1, 0, 0, 0);
        x.job(0, 1, 0, 0, 0);
        int[] shared = {-11, -10, -9, -6, -5, -4, -1, 0, 1, 4, 5, 6, 9, 10, 11, MIN, MAX};
        int[] by5 = {-2, -2, -1, -1, -1, 0, 0, 0, 0, 0, 1, 1, 1, 2, 2, -429496729, 429496729};
        x.shelf(0, 0, 0);
        x.shelf(1, 0, 5);
        x.shelf(2, 0, 1);
        for (int i = 0; i < shared.length; i++) {
            T.due(shared[i] + " by 5", x.act(0, 2, shared[i]), by5[i]);
            T.due(shared[i] + " by -5", x.act(1, 2, shared[i]), -by5[i]);
            T.due(shared[i] + " by -1", x.act(2, 2, shared[i]), -shared[i]);
        }
    }

    /** "in the latest act(), as they began (left first)": behind the last one NONE. */
    private static void traceOfLatest() {
        T.promise(43);
        PressDays x = new PressDays();
        for (int i : new int[] {-1, 0, 1, 29, 30, MIN, MAX}) T.due("trace(" + i + ") of none", x.trace(i), -3);
        x.job(4, 1, 0, 0, 5);
        x.job(3, 1, 0, 0, 5);
        for (int i = 0; i < 2; i++) x.shelf(i, 0, i);
        // "left first": an urgent one's sets() runs 20 ahead of the other prints(), a poster's tells() 13 ahead of shares().
        int[][] longest = {{13, 51, 20, 11, 50, 10, 50, 10}, {31, 13, 11, 41, 30, 10, 40, 12}};
        for (int shelf = 0; shelf < 2; shelf++) {
            T.due("act", x.act(shelf, 3, 1) == -15 ? 1 : 0, 0);
            for (int i = 0; i < 8; i++) T.due("trace(" + i + ") of shelf " + shelf, x.trace(i), longest[shelf][i]);
            for (int i : new int[] {-1, 8, 9, 29, 30, 31, MIN, MAX}) T.due("trace(" + i + ")", x.trace(i), -3);
        }
        x.act(0, 2, 1);
        T.due("trace(0) of a short one", x.trace(0), 12);
        T.due("trace(1) of a short one", x.trace(1), -3);
        x.drop(0);
        x.shelf(0, 2, 0);
        x.board();
        T.due("trace(0) stays", x.trace(0), 12);
        T.due("many(4) stays", x.many(4), 1);
    }

    /** "How many", of each from none to the most there can be. */
    private static void counts() {
        T.promise(44);
        PressDays x = new PressDays();
        for (int n = 0; n <= 6; n++) {
            T.due("many(0)", x.many(0), n);
            x.job(0, 1, 0, 0, 1);
        }
        T.due("many(0) of seven", x.many(0), 6);
        for (int n = 0; n <= 3; n++) {
            T.due("many(1)", x.many(1), n);
            x.type(0, 1, 0, 0, 0, 1);
        }
        T.due("many(1) of four", x.many(1), 3);
        T.due("many(2) of none", x.many(2), 0);
        x.prove();
        T.due("many(2) of six", x.many(2), 6);
        for (int n = 0; n <= 200; n += 8) {
            T.due("many(3)", x.many(3), n);
            x.feed(0, 8);
        }
        T.due("many(3) of more", x.many(3), 200);
        T.due("many(4) of none", x.many(4), 0);
        x.shelf(0, 0, 1);
        x.act(0, 3, 1);
        T.due("many(4) of three", x.many(4), 3);
        for (int what : new int[] {-1, 5, MIN, MAX}) T.due("many(" + what + ")", x.many(what), -1);
    }
}
