/** Promises 26 to 32 at their edges, sentence by sentence. */
public final class EdgeComersTest {
    private static final Due T = new Due("EdgeComersTest");
    private static final int MIN = Due.MIN, MAX = Due.MAX, NO = PressDays.NO;

    public static void main(String[] args) {
        typeNumbers();
        oddsTogether();
        typesOfThree();
        aheadNumbers();
        aheadIsBest();
        aheadOfThreeTypes();
        aheadOdds();
        aheadPatience();
        aheadSendsAway();
        drawnBelowOdds();
        wraps();
        daysToTheLast();
        slotsOfADay();
        endsOnTheDay();
        goneOnes();
        paid();
        T.end();
    }

    /** Each number of a type at its least and most, and one step outside. */
    private static void typeNumbers() {
        int[] least = {0, 1, 0, 0, 0, 1}, most = {5, 9, 1, 20, 99, 4};
        for (int k = 0; k < 6; k++) {
            for (int v : new int[] {least[k] - 1, least[k], most[k], most[k] + 1, MIN, MAX}) {
                int[] a = {0, 1, 0, 0, 0, 1};
                a[k] = v;
                boolean taken = v == least[k] || v == most[k];
                PressDays x = new PressDays();
                T.promise(26);
                T.due("number " + k + " of a type: " + v, x.type(a[0], a[1], a[2], a[3], a[4], a[5]), taken ? 0 : -1);
                T.due("many(1)", x.many(1), taken ? 1 : 0);
                T.promise(27);
                for (int i = 0; i < 6; i++) T.due("typeOf(0, " + i + ")", x.typeOf(0, i), taken ? a[i] : -1);
            }
        }
        // LONG is told as it came, of a half, too; what REST it has is the job's.
        PressDays x = new PressDays();
        x.type(5, 9, 1, 20, 99, 4);
        T.due("LONG of a half", x.typeOf(0, 1), 9);
    }

    /** "of all together 4 at most"; "STATE, ahead of FULL here". */
    private static void oddsTogether() {
        T.promise(26);
        for (int code = 0; code < 256; code++) {
            PressDays x = new PressDays();
            int sum = 0, count = 0;
            for (int i = 0; i < 4; i++) {
                int odds = 1 + (code >> 2 * i & 3);
                int due = sum + odds > 4 ? -4 : count == 3 ? -2 : count;
                if (due >= 0) {
                    sum += odds;
                    count++;
                }
                T.due("type of odds " + odds + " behind " + sum, x.type(0, 1, 0, 0, 0, odds), due);
            }
            T.due("many(1)", x.many(1), count);
            T.due("type(bad) is ahead of STATE", x.type(0, 1, 0, 0, 0, 5), -1);
            T.due("type(bad) is ahead of STATE", x.type(0, 1, 2, 0, 0, 4), -1);
        }
    }

    private static void typesOfThree() {
        T.promise(27);
        PressDays x = new PressDays();
        int[][] types = {{0, 1, 0, 0, 0, 1}, {5, 9, 1, 20, 99, 2}, {3, 4, 0, 7, 8, 1}};
        for (int n = 0; n <= 3; n++) {
            for (int i = 0; i < n; i++) {
                for (int k = 0; k < 6; k++) T.due("typeOf(" + i + ", " + k + ") of " + n, x.typeOf(i, k), types[i][k]);
                for (int k : new int[] {-1, 6, MIN, MAX}) T.due("typeOf(" + i + ", " + k + ")", x.typeOf(i, k), -1);
            }
            for (int i : new int[] {-1, n, MIN, MAX}) T.due("typeOf(" + i + ", 0) of " + n, x.typeOf(i, 0), -1);
            if (n == 3) continue;
            int[] t = types[n];
            T.promise(26);
            T.due("type " + n, x.type(t[0], t[1], t[2], t[3], t[4], t[5]), n);
            T.promise(27);
        }
    }

    /** "n, part; or JOBS and n are above 5". */
    private static void aheadNumbers() {
        T.promise(28);
        PressDays x = Due.press(4, 0);
        x.type(0, 1, 0, 20, 4, 4);
        for (int jobs = 0; jobs <= 6; jobs++) {
            for (int n = -1; n <= 4; n++) {
                boolean taken = n >= 0 && n <= 3 && jobs + n <= 5;
                T.due("ahead(" + n + ", 0) of " + jobs, x.ahead(n, 0), taken ? 4 * n : NO);
                T.due("ahead(" + n + ", 1) of " + jobs, x.ahead(n, 1), taken ? 1 : NO);
                for (int part : Due.OUT_OF_2) T.due("ahead(" + n + ", " + part + ")", x.ahead(n, part), NO);
            }
            for (int n : new int[] {MIN, MAX}) T.due("ahead(" + n + ", 0)", x.ahead(n, 0), NO);
            T.due("many(0)", x.many(0), jobs);
            x.job(0, 1, 0, 60, 0);
        }
    }

    /** Of no calls, or of nobody who could come: the most worth as it is. */
    private static void aheadIsBest() {
        T.promise(28);
        PressDays x = Due.press(1, 0);
        for (int n = 0; n <= 3; n++) {
            T.due("ahead(" + n + ", 0) of nothing", x.ahead(n, 0), 0);
            T.due("ahead(" + n + ", 1) of nothing", x.ahead(n, 1), 1);
        }
        x.job(0, 1, 0, 0, 7);
        x.job(0, 1, 0, 0, 9);
        x.plan(010);
        T.due("best(0)", x.best(0), 4);
        for (int n = 0; n <= 3; n++) T.due("ahead(" + n + ", 0) of no types", x.ahead(n, 0), 4);
        x.type(0, 1, 0, 20, 99, 4);
        T.due("ahead(0, 0): nobody comes", x.ahead(0, 0), 4);
        x.set(2, 99);
        T.due("ahead(0, 0) below 0", x.ahead(0, 0), -90);
        T.due("ahead(0, 1) below 0", x.ahead(0, 1), 1);
    }

    /** Three types, one slot: "if each time one knows who came so far". */
    private static void aheadOfThreeTypes() {
        T.promise(28);
        PressDays x = Due.press(1, 0);
        x.set(2, 99);
        for (int i = 1; i <= 3; i++) x.type(0, 1, 0, 0, 4 * i, 1);
        // One call: (4 + 8 + 12) by 4. Two: who brings less than 6 is sent away first: (6 + 8 + 12 + 6) by 4.
        // Three: who brings less than 8: (8 + 8 + 12 + 8) by 4.
        int[] due = {0, 6, 8, 9};
        for (int n = 0; n <= 3; n++) {
            T.due("ahead(" + n + ", 0)", x.ahead(n, 0), due[n]);
            T.due("ahead(" + n + ", 1)", x.ahead(n, 1), 1);
        }
        x.job(0, 1, 0, 0, 10);
        // The slot is taken: only 12 could be worth more, but for the fine.
        for (int n = 0; n <= 3; n++) T.due("ahead(" + n + ", 0), no room", x.ahead(n, 0), 10);
        x.set(2, 0);
        // Without a fine all are taken: (10 + 10 + 12 + 10) by 4.
        T.due("ahead(1, 0), no fine", x.ahead(1, 0), 21);
        T.due("ahead(1, 1), no fine", x.ahead(1, 1), 2);
    }

    /** "a TYPE comes with its ODDS by 4, else nobody"; below the line there may be 64. */
    private static void aheadOdds() {
        T.promise(28);
        int[][] above = {{}, {0, 1, 7, 37}, {0, 1, 3, 7}, {0, 3, 15, 63}, {0, 1, 1, 1}};
        int[][] below = {{}, {1, 4, 16, 64}, {1, 2, 4, 8}, {1, 4, 16, 64}, {1, 1, 1, 1}};
        for (int odds = 1; odds <= 4; odds++) {
            PressDays x = Due.press(1, 0);
            x.type(0, 1, 0, 0, 1, odds);
            for (int n = 0; n <= 3; n++) {
                T.due("ahead(" + n + ", 0) of odds " + odds, x.ahead(n, 0), above[odds][n]);
                T.due("ahead(" + n + ", 1) of odds " + odds, x.ahead(n, 1), below[odds][n]);
            }
        }
        // Below 0: who comes makes up for something.
        PressDays x = Due.press(1, 0);
        x.set(2, 50);
        x.job(0, 2, 0, 0, 1);
        x.type(0, 1, 0, 0, 1, 1);
        int[][] due = {{-50, 1}, {-199, 4}, {-793, 16}, {-3163, 64}};
        for (int n = 0; n <= 3; n++) {
            for (int part = 0; part < 2; part++) T.due("ahead(" + n + ", " + part + ") below 0", x.ahead(n, part), due[n][part]);
        }
    }

    /** "promised for the DAY now and PATIENCE". */
    private static void aheadPatience() {
        T.promise(28);
        for (int now : new int[] {0, 7, 60}) {
            for (int patience = 0; patience <= 20; patience++) {
                PressDays x = Due.press(1, 0);
                x.set(2, 99);
                for (int i = 0; i < now; i++) x.goes();
                int slots = Math.min(9, patience + 1);
                x.type(0, slots, 0, patience, 5, 4);
                // As many days are lost as would make it end on just the day promised, then one more.
                int lost = patience + 1 - slots;
                for (int i = 0; i < lost && now + i <= 60; i++) x.lose(now + i, 1);
                boolean canLose = now + lost <= 60;
                T.due("ahead(1, 0) just in time, patience " + patience, x.ahead(1, 0), 5);
                if (canLose) x.lose(now + lost, 1);
                T.due("ahead(1, 0) just late, patience " + patience, x.ahead(1, 0), canLose ? 0 : 5);
            }
        }
    }

    /** "it is taken or sent away": whichever brings more. */
    private static void aheadSendsAway() {
        T.promise(28);
        PressDays x = Due.press(1, 0);
        // A poster that is late brings half of its price, a job a fine, an urgent one nothing.
        int[] kinds = {0, 1, 2, 3, 4, 5}, due = {0, 0, 4, 0, 0, 0};
        for (int kind : kinds) {
            x = Due.press(1, 0);
            x.type(kind, 9, 0, 0, 9, 4);
            T.due("ahead(1, 0) of a late one of kind " + kind, x.ahead(1, 0), due[kind]);
            T.due("ahead(3, 0) of late ones of kind " + kind, x.ahead(3, 0), 3 * due[kind]);
        }
        // It may push another one out that brings less.
        x = Due.press(1, 0);
        x.job(0, 1, 0, 0, 10);
        x.type(0, 1, 0, 0, 15, 4);
        T.due("ahead(1, 0) of a dearer one, no more than the fine", x.ahead(1, 0), 10);
        x.set(2, 4);
        T.due("ahead(1, 0) of a dearer one, more than the fine", x.ahead(1, 0), 11);
    }

    /** A z from which the next draw is the one that is asked. */
    private static int before(int drawn) {
        for (int v = 0; v < 1000; v++) {
            if ((v * 1103515245 + 12345 >>> 16) % 4 == drawn) return v;
        }
        return -1;
    }

    /** "the first one with (z >>> 16) % 4 below ODDS of it and those ahead together; or nobody". */
    private static void drawnBelowOdds() {
        T.promise(29);
        int[][] odds = {{}, {1}, {2}, {3}, {4}, {1, 1}, {1, 2}, {2, 1}, {1, 3}, {3, 1}, {2, 2}, {1, 1, 1}, {1, 1, 2}, {2, 1, 1}};
        String[] due = {"....", "0...", "00..", "000.", "0000", "01..", "011.", "001.", "0111", "0001", "0011", "012.",
            "0122", "0012"};
        for (int i = 0; i < odds.length; i++) {
            PressDays x = new PressDays();
            for (int k = 0; k < odds[i].length; k++) x.type(k, 1, 0, 0, 0, odds[i][k]);
            for (int drawn = 0; drawn < 4; drawn++) {
                int v = before(drawn);
                x.seed(v);
                char c = due[i].charAt(drawn);
                T.due("comes() of odds " + i + ", drawn " + drawn, x.comes(), c == '.' ? -9 : c - '0');
                T.due("z then", x.seed(0), v * 1103515245 + 12345);
            }
            T.due("many(0): it only tells", x.many(0), 0);
        }
    }

    /** z is an int: it wraps; its sign counts nothing in what is drawn. */
    private static void wraps() {
        T.promise(29);
        int[] seeds = {MIN, MIN + 1, -1, 0, 1, MAX - 1, MAX, 0x7FFF, 0x10000};
        for (int seed : seeds) {
            PressDays x = new PressDays();
            for (int i = 0; i < 3; i++) x.type(0, 1, 0, 0, 0, 1);
            x.seed(seed);
            long z = seed;
            for (int i = 0; i < 20; i++) {
                z = (z * 1103515245L + 12345L) & 0xFFFFFFFFL;
                int drawn = (int) (z / 65536 % 4);
                T.due("comes() behind seed(" + seed + ")", x.comes(), drawn == 3 ? -9 : drawn);
            }
            T.promise(30);
            T.due("seed(" + seed + ")", x.seed(seed), (int) z);
            T.due("seed(0)", x.seed(0), seed);
            T.promise(29);
        }
    }

    /** "STATE: it is DAY 60": on day 59 a day goes yet. */
    private static void daysToTheLast() {
        T.promise(31);
        PressDays x = Due.press(1, 0);
        x.job(0, 9, 0, 60, 5);
        for (int day = 0; day < 60; day++) {
            T.due("press(0)", x.press(0), day);
            T.due("goes() on day " + day, x.goes(), day == 8 || day == 59 ? 1 : 0);
            if (day == 58) x.job(0, 1, 0, 59, 6);
        }
        x.job(0, 1, 0, 60, 7);
        for (int i = 0; i < 3; i++) {
            T.due("press(0)", x.press(0), 60);
            T.due("goes() on day 60", x.goes(), -4);
            T.due("many(0)", x.many(0), 1);
            T.due("jobOf(0, 1)", x.jobOf(0, 1), 1);
            T.due("till()", x.till(), 11);
        }
    }

    /** "its SLOTS are worked": none of a lost day, thirteen at most; a slot too few, just enough, one to spare. */
    private static void slotsOfADay() {
        T.promise(31);
        for (int slots = 0; slots <= 13; slots++) {
            PressDays x = Due.press(4, 3);
            x.lose(0, slots < 4 ? 4 - slots : 0);
            x.night(0, slots < 4 ? 0 : slots - 4);
            T.due("slots(0)", x.slots(0), slots);
            x.job(0, 9, 0, 60, 5);
            x.job(0, 1, 1, 60, 5);
            T.due("goes() of " + slots, x.goes(), slots < 9 ? 0 : slots < 13 ? 1 : 2);
            T.due("many(0)", x.many(0), slots < 9 ? 2 : slots < 13 ? 1 : 0);
            if (slots < 9) T.due("jobOf(0, 1)", x.jobOf(0, 1), 9 - slots);
            T.due("press(1)", x.press(1), slots > 9 ? 1 : 0);
            T.due("press(2)", x.press(2), slots == 10 ? 2 : slots == 11 ? 1 : 0);
            T.due("press(0)", x.press(0), 1);
            T.due("till()", x.till(), slots < 9 ? 0 : slots < 13 ? 5 : 10);
        }
        PressDays x = Due.press(4, 0);
        x.night(0, 2);
        for (int i = 0; i < 6; i++) x.job(0, 1, i % 2, 60, i);
        T.due("goes() of six", x.goes(), 6);
        T.due("many(0)", x.many(0), 0);
        T.due("till()", x.till(), 15);
        T.due("goes() of none", x.goes(), 0);
        T.due("press(0)", x.press(0), 2);
    }

    /** A job ends on the day that ends() told, and is paid what worth() told. */
    private static void endsOnTheDay() {
        T.promise(31);
        for (int kind = 0; kind < 6; kind++) {
            PressDays x = Due.press(2, 3);
            x.set(2, 7);
            x.job(kind, 6, 1, 2, 9);
            x.lose(1, 1);
            int due = x.ends(0), worth = x.worth();
            T.due("ends(0) of kind " + kind, due, kind == 5 ? 3 : 4);
            for (int day = 0; day <= due; day++) {
                T.due("till() on day " + day, x.till(), 0);
                T.due("goes() on day " + day, x.goes(), day == due ? 1 : 0);
            }
            T.due("till() of kind " + kind, x.till(), worth);
        }
    }

    /** "those that END are paid and go": those behind are one less, in the plan, too. */
    private static void goneOnes() {
        T.promise(31);
        int[] plan = {4, 1, 5, 0, 3, 2};
        for (int gone = 0; gone <= 6; gone++) {
            PressDays x = Due.press(1, 0);
            x.lose(0, 1);
            x.night(0, gone);
            for (int i = 0; i < 6; i++) x.job(0, 1, 0, 60, 1 << i);
            x.plan(0230514);
            T.due("goes() of " + gone, x.goes(), gone);
            T.due("many(0)", x.many(0), 6 - gone);
            int till = 0;
            for (int i = 0; i < gone; i++) till += 1 << plan[i];
            T.due("till()", x.till(), till);
            for (int i = gone; i < 6; i++) {
                T.due("price of planOf(" + (i - gone) + ")", x.jobOf(x.planOf(i - gone), 4), 1 << plan[i]);
                int number = 0;
                for (int k = gone; k < 6; k++) if (plan[k] < plan[i]) number++;
                T.due("planOf(" + (i - gone) + ")", x.planOf(i - gone), number);
            }
            T.due("planOf behind all", x.planOf(6 - gone), -1);
            if (gone > 0) T.due("job", x.job(0, 1, 0, 60, 99), 6 - gone);
        }
    }

    /** "TILL (may be below 0)": what is paid, by the fine of the day on which it ends, and no more. */
    private static void paid() {
        T.promise(32);
        PressDays x = Due.press(1, 0);
        T.due("till() at first", x.till(), 0);
        for (int i = 0; i < 6; i++) x.job(1, 1, 0, 0, 99);
        x.set(2, 99);
        int[] due = {99, -99, -297, -495, -693, -891};
        for (int d : due) {
            x.goes();
            T.due("till()", x.till(), d);
        }
        x.goes();
        T.due("till() of no job", x.till(), -891);
        x.job(0, 1, 0, 60, 99);
        x.drop(0);
        T.due("till() behind a drop: unpaid", x.till(), -891);
        x.job(0, 1, 0, 0, 99);
        x.set(2, 0);
        x.goes();
        T.due("till() of no fine", x.till(), -891);
        T.due("board() with a fault", Due.board(x, "!"), -100);
        T.due("till() behind a fault", x.till(), -891);
        T.due("board()", x.board(), 0);
        T.due("till() behind board()", x.till(), 0);
    }
}
