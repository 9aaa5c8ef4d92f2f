/** Promises 37 to 44: the host. */
public final class HostTest {
    private static final Due T = new Due("HostTest");
    private static final int MIN = Integer.MIN_VALUE, MAX = Integer.MAX_VALUE;
    private static final int[] NO_PLACE = {-1, 4, MIN, MAX};

    public static void main(String[] args) {
        sheet();
        put();
        item();
        shelf();
        taken();
        actsOfKinds();
        actWraps();
        actParts();
        actOfNothing();
        trace();
        many();
        T.end();
    }

    private static void sheet() {
        T.promise(37);
        PressDays x = new PressDays();
        for (int i : NO_PLACE) T.due("sheet(" + i + ", 0, 1)", x.sheet(i, 0, 1), -1);
        for (int sort : new int[] {-2, 4, MIN, MAX}) T.due("sheet(0, " + sort + ", 1)", x.sheet(0, sort, 1), -1);
        for (int n : new int[] {41, MAX}) T.due("sheet(0, 0, " + n + ")", x.sheet(0, 0, n), -1);
        for (int n : new int[] {-1, MIN}) T.due("sheet(0, 0, " + n + ")", x.sheet(0, 0, n), -14);
        T.due("BAD is ahead", x.sheet(0, 4, -1), -1);
        T.due("BAD is ahead", x.sheet(4, 0, -1), -1);
        T.due("still missing", x.put(0, 0, 0), -11);
        for (int sort = 0; sort < 4; sort++) {
            T.due("sheet of 40", x.sheet(sort, sort, 40), 1);
            T.due("put(39)", x.put(sort, 39, 7), 1);
            T.due("sheet refused", x.sheet(sort, sort, -1), -14);
            T.due("sheet refused", x.sheet(sort, sort, 41), -1);
            T.due("item(39) stays", x.item(sort, sort, 39), 7);
            x.put(sort, 0, 7);
            T.due("sheet anew", x.sheet(sort, sort, 40), 1);
            T.due("item(0) is 0", x.item(sort, sort, 0), 0);
            T.due("item(39) is 0", x.item(sort, sort, 39), 0);
        }
        T.due("sheet of 0", x.sheet(2, 0, 0), 1);
        T.due("item of 0", x.item(2, 0, 0), -12);
        for (int n : new int[] {0, -1, 41, MIN, MAX}) {
            x.sheet(2, 0, 1);
            T.due("sheet(2, -1, " + n + ")", x.sheet(2, -1, n), 1);
            T.due("item of missing", x.item(2, 0, 0), -11);
        }
    }

    private static void put() {
        T.promise(38);
        PressDays x = new PressDays();
        for (int i : NO_PLACE) T.due("put(" + i + ", 0, 1)", x.put(i, 0, 1), -1);
        T.due("put of missing", x.put(0, 99, 1), -11);
        int[] v = {0, 127, 128, 255, 256, -129, 32767, 32768, 65535, 98304, MIN, MAX, -1};
        int[] asByte = {0, 127, -128, -1, 0, 127, -1, 0, -1, 0, 0, -1, -1};
        int[] asShort = {0, 127, 128, 255, 256, -129, 32767, -32768, -1, -32768, 0, -1, -1};
        for (int sort = 0; sort < 4; sort++) {
            x.sheet(sort, sort, 3);
            for (int i = 0; i < v.length; i++) {
                T.due("put(" + v[i] + ") of sort " + sort, x.put(sort, 2, v[i]), 1);
                int due = sort == 0 ? asByte[i] : sort == 1 ? asShort[i] : v[i];
                T.due("item behind put(" + v[i] + ")", x.item(sort, sort, 2), due);
            }
            T.due("the others stay", x.item(sort, sort, 1), 0);
            for (int i : new int[] {-1, 3, 40, MIN, MAX}) T.due("put(.., " + i + ")", x.put(sort, i, 1), -12);
        }
        T.due("put(1, 0, 5)", x.put(1, 0, 5), 1);
        T.due("item(1, 1, 0)", x.item(1, 1, 0), 5);
        T.due("the next sheet stays", x.item(2, 2, 0), 0);
    }

    private static void item() {
        T.promise(39);
        PressDays x = new PressDays();
        for (int i : NO_PLACE) T.due("item(" + i + ", 0, 0)", x.item(i, 0, 0), -1);
        for (int sort : new int[] {-1, 4, MIN, MAX}) T.due("item(0, " + sort + ", 0)", x.item(0, sort, 0), -1);
        T.due("item of missing", x.item(0, 3, -1), -11);
        for (int sort = 0; sort < 4; sort++) {
            x.sheet(0, sort, 5);
            x.put(0, 4, -13);
            for (int as = 0; as < 4; as++) {
                T.due("item of " + sort + " as " + as, x.item(0, as, 4), -13);
                T.due("item of " + sort + " as " + as, x.item(0, as, 3), sort == as ? 0 : -13);
                T.due("item outside of " + sort + " as " + as, x.item(0, as, 5), sort == as ? -12 : -13);
            }
            for (int i : new int[] {-1, 5, MIN, MAX}) T.due("item(.., " + i + ")", x.item(0, sort, i), -12);
        }
    }

    private static void shelf() {
        T.promise(40);
        PressDays x = new PressDays();
        T.due("shelf of no job", x.shelf(0, 0, 0), -1);
        x.job(0, 1, 0, 0, 1);
        x.job(0, 1, 0, 0, 1);
        for (int i : NO_PLACE) T.due("shelf(" + i + ", 2, 0)", x.shelf(i, 2, 0), -1);
        for (int what : new int[] {-1, 3, MIN, MAX}) T.due("shelf(0, " + what + ", 0)", x.shelf(0, what, 0), -1);
        for (int n : new int[] {-1, 2, MIN, MAX}) T.due("shelf(0, 0, " + n + ")", x.shelf(0, 0, n), -1);
        for (int n : NO_PLACE) T.due("shelf(0, 1, " + n + ")", x.shelf(0, 1, n), -1);
        for (int shelf = 0; shelf < 4; shelf++) {
            T.due("shelf(" + shelf + ", 0, 1)", x.shelf(shelf, 0, 1), 1);
            T.due("taken", x.taken(shelf, 0), 1);
            T.due("shelf(refused)", x.shelf(shelf, 0, 2), -1);
            T.due("taken stays", x.taken(shelf, 0), 1);
            T.due("shelf(" + shelf + ", 2, 99)", x.shelf(shelf, 2, 99), 1);
            T.due("taken of nothing", x.taken(shelf, 0), -11);
            x.sheet(shelf, shelf, 30 + shelf);
            T.due("shelf(" + shelf + ", 1, ..)", x.shelf(shelf, 1, shelf), 1);
            T.due("taken of a row", x.taken(shelf, 10 + shelf), 30 + shelf);
        }
        // The row stays on the shelf when its sheet becomes another.
        x.sheet(0, 2, 4);
        T.due("taken of the old row", x.taken(0, 10), 30);
        T.due("taken as of the new row", x.taken(0, 12), -13);
        x.sheet(0, -1, 0);
        T.due("taken of the old row", x.taken(0, 10), 30);
        T.due("shelf of a missing sheet", x.shelf(0, 1, 0), 1);
        T.due("taken of nothing", x.taken(0, 10), -11);
    }

    private static void taken() {
        T.promise(41);
        PressDays x = new PressDays();
        for (int kind = 0; kind < 6; kind++) x.job(kind, 1, 0, 0, 1);
        for (int i : NO_PLACE) T.due("taken(" + i + ", 0)", x.taken(i, 0), -1);
        for (int as : new int[] {-1, 6, 9, 14, MIN, MAX}) T.due("taken(0, " + as + ")", x.taken(0, as), -1);
        for (int as : new int[] {0, 5, 10, 13}) T.due("taken(0, " + as + ") of nothing", x.taken(0, as), -11);
        String[] fits = {"0", "01", "02", "023", "014", "05"};
        for (int kind = 0; kind < 6; kind++) {
            x.shelf(kind % 4, 0, kind);
            for (int as = 0; as < 6; as++) {
                int due = fits[kind].indexOf('0' + as) >= 0 ? kind : -13;
                T.due("taken of kind " + kind + " as " + as, x.taken(kind % 4, as), due);
            }
            for (int as = 10; as < 14; as++) T.due("taken of a job as " + as, x.taken(kind % 4, as), -13);
        }
        for (int sort = 0; sort < 4; sort++) {
            x.sheet(1, sort, 10 * sort);
            x.shelf(0, 1, 1);
            for (int as = 10; as < 14; as++) {
                T.due("taken of a row as " + as, x.taken(0, as), as - 10 == sort ? 10 * sort : -13);
            }
            for (int as = 0; as < 6; as++) T.due("taken of a row as " + as, x.taken(0, as), -13);
        }
        x.shelf(3, 0, 5);
        x.shelf(2, 0, 1);
        x.drop(0);
        T.due("taken of a job that is no more", x.taken(3, 5), -11);
        T.due("taken by its number", x.taken(2, 2), 1);
        x.job(3, 1, 0, 0, 1);
        T.due("taken by its number", x.taken(3, 3), 5);
    }

    /** Of a job with number 2 and price 9: the four acts with x = 100, and the bodies that ran. */
    private static void kind(int kind, int[] due, int[][] bodies) {
        PressDays x = new PressDays();
        x.job(0, 1, 0, 0, 1);
        x.job(0, 1, 0, 0, 1);
        x.job(kind, 1, 0, 0, 9);
        x.shelf(1, 0, 2);
        for (int act = 0; act < 4; act++) {
            T.promise(42);
            T.due("act(1, " + act + ", 100) of kind " + kind, x.act(1, act, 100), due[act]);
            T.promise(43);
            int[] b = bodies[act];
            T.due("many(4)", x.many(4), b.length);
            for (int i = 0; i < b.length; i++) T.due("trace(" + i + ") of act " + act + " of " + kind, x.trace(i), b[i]);
            T.due("trace behind", x.trace(b.length), -3);
        }
    }

    private static void actsOfKinds() {
        kind(0, new int[] {102, 204, 14, 204 ^ 9}, new int[][] {{10}, {11, 10}, {12}, {13, 11, 10}});
        kind(1, new int[] {102, 195, 14, 195 ^ 9}, new int[][] {{10}, {20, 11, 10}, {12}, {13, 20, 11, 10}});
        kind(2, new int[] {306, 612, 14, 612 ^ 9},
            new int[][] {{30, 10}, {11, 30, 10}, {12}, {31, 13, 11, 30, 10, 12}});
        kind(3, new int[] {304, 608, 15, (608 ^ 9) + 1},
            new int[][] {{41, 30, 10}, {11, 41, 30, 10}, {40, 12}, {31, 13, 11, 41, 30, 10, 40, 12}});
        kind(4, new int[] {-102, -204 - 9 - 4, 14, -217 ^ 9},
            new int[][] {{50, 10}, {51, 20, 11, 50, 10, 50, 10}, {12}, {13, 51, 20, 11, 50, 10, 50, 10}});
        kind(5, new int[] {102, 204, 14 + 11, (204 ^ 9) * 2},
            new int[][] {{10}, {11, 10}, {61, 12, 10}, {60, 13, 11, 10}});
    }

    private static void actWraps() {
        T.promise(42);
        PressDays x = new PressDays();
        x.job(0, 1, 0, 0, 1);
        x.job(0, 1, 0, 0, 0);
        x.job(3, 1, 0, 0, 2);
        x.job(5, 1, 0, 0, 3);
        x.job(2, 1, 0, 0, 4);
        x.shelf(0, 0, 1);
        T.due("MAX prints", x.act(0, 0, MAX), MIN);
        T.due("MAX sets", x.act(0, 1, MAX), 0);
        T.due("MIN by -1", x.act(0, 2, MIN), MIN);
        T.due("7 by -1", x.act(0, 2, 7), -7);
        x.shelf(0, 0, 0);
        T.due("-7 by 1", x.act(0, 2, -7), -7);
        x.drop(1);
        x.job(0, 1, 0, 0, 9);
        x.shelf(0, 0, 4);
        T.due("-9 by 5: towards 0", x.act(0, 2, -9), -1);
        // The ticket is number 1 now, with price 2.
        x.shelf(1, 0, 1);
        T.due("MAX and 2 by 1", x.act(1, 2, MAX), MIN + 1 ^ 1);
    }

    private static void actParts() {
        // Each one's price is its number.
        PressDays x = new PressDays();
        x.job(0, 1, 0, 0, 0);
        x.job(5, 1, 0, 0, 1);
        x.job(2, 1, 0, 0, 2);
        x.job(3, 1, 0, 0, 3);
        for (int i = 0; i < 4; i++) x.shelf(i, 0, i);
        int[][] parted = {{12}, {61, 12}, {12}, {40, 12}};
        for (int i = 0; i < 4; i++) {
            T.promise(42);
            T.due("act(" + i + ", 2, 5) parted by 0", x.act(i, 2, 5), -15);
            T.promise(43);
            T.due("many(4)", x.many(4), parted[i].length);
            for (int k = 0; k < parted[i].length; k++) T.due("trace(" + k + ")", x.trace(k), parted[i][k]);
        }
        T.promise(42);
        T.due("the poster tells, parted by 0", x.act(2, 3, 5), -15);
        T.due("many(4)", x.many(4), 6);
        T.due("the ticket tells, parted by 0", x.act(3, 3, 5), -15);
        T.due("many(4)", x.many(4), 8);
        T.due("the half tells, not parted", x.act(1, 3, 5), (12 ^ 1) * 2);
        T.due("an act behind it", x.act(0, 0, 5), 5);
    }

    private static void actOfNothing() {
        PressDays x = new PressDays();
        x.job(0, 1, 0, 0, 5);
        x.shelf(0, 0, 0);
        x.sheet(0, 0, 5);
        x.shelf(2, 1, 0);
        int[][] none = {{-1, 0}, {4, 0}, {MIN, 0}, {MAX, 0}, {0, -1}, {0, 4}, {0, MIN}, {0, MAX}, {1, 0}, {2, 0}};
        for (int[] a : none) {
            x.act(0, 0, 5);
            T.promise(42);
            T.due("act(" + a[0] + ", " + a[1] + ", 5)", x.act(a[0], a[1], 5), 0);
            T.promise(43);
            T.due("no trace then", x.trace(0), -3);
            T.due("no trace then", x.many(4), 0);
        }
        x.act(0, 0, 5);
        x.drop(0);
        T.due("the trace stays", x.trace(0), 10);
        T.promise(42);
        T.due("act of a job that is no more", x.act(0, 0, 5), 0);
        T.due("no trace then", x.trace(0), -3);
        x.job(0, 1, 0, 0, 5);
        T.due("act by its number", x.act(0, 0, 5), 5);
    }

    private static void trace() {
        T.promise(43);
        PressDays x = new PressDays();
        T.due("trace(0) of none", x.trace(0), -3);
        x.job(4, 1, 0, 0, 5);
        x.shelf(0, 0, 0);
        x.act(0, 3, 5);
        T.due("trace(7)", x.trace(7), 10);
        for (int i : new int[] {-1, 8, 29, 30, 31, MIN, MAX}) T.due("trace(" + i + ")", x.trace(i), -3);
        x.act(0, 0, 5);
        T.due("trace(0) of the latest", x.trace(0), 50);
        T.due("trace(2) of the latest", x.trace(2), -3);
    }

    private static void many() {
        T.promise(44);
        PressDays x = new PressDays();
        for (int what : new int[] {-1, 5, MIN, MAX}) T.due("many(" + what + ")", x.many(what), -1);
        x.type(0, 1, 0, 0, 1, 1);
        for (int i = 0; i < 3; i++) x.job(3, 1, 0, 0, 1);
        x.prove();
        x.drop(2);
        x.feed(0, 5);
        x.shelf(0, 0, 0);
        x.act(0, 3, 1);
        int[] due = {2, 1, 3, 5, 8};
        for (int i = 0; i < 5; i++) T.due("many(" + i + ")", x.many(i), due[i]);
    }
}
