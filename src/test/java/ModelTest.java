import java.util.Random;

/** Long runs of calls by a fixed seed: PressDays answers as SlowPress does. */
public final class ModelTest {
    private static final int RUNS = 400, CALLS = 512;

    private final Random random;
    private final PressDays fast = new PressDays();
    private final SlowPress slow = new SlowPress();
    private final StringBuilder told = new StringBuilder();

    private ModelTest(long seed) {
        random = new Random(seed);
    }

    /** Mostly as told, now and then at an edge or far outside. */
    private int pick(int least, int most) {
        int dice = random.nextInt(60);
        if (dice == 0) return least - 1;
        if (dice == 1) return most + 1;
        if (dice == 2) return random.nextInt();
        if (dice == 3) return least;
        if (dice == 4) return most;
        return least + random.nextInt(most - least + 1);
    }

    private int soon() {
        int day = slow.w.day;
        return random.nextInt(4) == 0 ? pick(0, 60) : pick(Math.min(day, 60), Math.min(60, day + 12));
    }

    private boolean same(String call, int got, int due) {
        told.append(call).append(" = ").append(due).append('\n');
        if (got == due) return true;
        System.out.println(told);
        System.out.println(call + " answered " + got + ", due is " + due);
        return false;
    }

    private boolean step() {
        int k = random.nextInt(100);
        if (k < 4) return text();
        if (k < 40) return aboutBoard();
        if (k < 62) return aboutWorth();
        if (k < 74) return aboutTypes();
        if (k < 82) return aboutRows();
        if (k < 97) return aboutHost();
        if (k == 97) return same("keep()", fast.keep(), slow.keep());
        if (k == 98) return same("again()", fast.again(), slow.again());
        if (random.nextInt(4) == 0) return manyDays();
        return everything();
    }

    private boolean manyDays() {
        boolean right = true;
        for (int i = random.nextInt(70); i >= 0; i--) right &= same("goes()", fast.goes(), slow.goes());
        return right;
    }

    private String someText() {
        StringBuilder b = new StringBuilder();
        String[] kinds = {"wedding ", "poster ", "ticket ", "urgent ", "half ", "job ", ""};
        String[] laws = {"slots ", "fine ", "setting "};
        int statements = random.nextInt(9);
        for (int i = 0; i < statements; i++) {
            if (random.nextInt(5) == 0) {
                b.append(laws[random.nextInt(3)]).append(random.nextInt(5)).append(';');
                continue;
            }
            b.append(kinds[random.nextInt(7)]).append(pick(1, 9)).append(random.nextInt(3) == 0 ? " black" : "");
            b.append(" by ").append(random.nextInt(30)).append(" for ").append(random.nextInt(40)).append(';');
        }
        for (int i = random.nextInt(3) == 0 ? random.nextInt(3) : 0; i > 0 && b.length() > 0; i--) {
            int at = random.nextInt(b.length());
            int how = random.nextInt(4);
            if (how == 0) b.deleteCharAt(at);
            else if (how == 1) b.insert(at, ' ');
            else if (how == 2) b.setCharAt(at, (char) random.nextInt(256));
            else b.insert(at, "a9; b0".charAt(random.nextInt(6)));
        }
        return b.toString();
    }

    private boolean text() {
        String s = someText();
        for (int i = 0; i < s.length(); i += 8) {
            int n = Math.min(8, s.length() - i);
            long eight = random.nextLong();
            for (int j = n - 1; j >= 0; j--) {
                eight = eight & ~(255L << 8 * j) | (long) s.charAt(i + j) << 8 * j;
            }
            if (!same("feed(" + eight + ", " + n + ")", fast.feed(eight, n), slow.feed(eight, n))) return false;
        }
        if (random.nextInt(5) == 0) return true;
        return same("board() of " + s, fast.board(), slow.board());
    }

    private boolean aboutBoard() {
        int a = pick(0, 5), b = pick(1, 9), c = pick(0, 1), by = soon(), e = pick(0, 99);
        switch (random.nextInt(14)) {
            case 0: case 1: case 2: case 3:
                return same("job(" + a + ", " + b + ", " + c + ", " + by + ", " + e + ")",
                    fast.job(a, b, c, by, e), slow.job(a, b, c, by, e));
            case 4: b = pick(0, 4); return same("jobOf(" + a + ", " + b + ")", fast.jobOf(a, b), slow.jobOf(a, b));
            case 5: return random.nextInt(3) > 0 || same("drop(" + a + ")", fast.drop(a), slow.drop(a));
            case 6: {
                int law = pick(0, 3), v = pick(0, random.nextInt(5) == 0 ? 99 : 4);
                return same("set(" + law + ", " + v + ")", fast.set(law, v), slow.set(law, v));
            }
            case 7: b = pick(0, 9); return same("lose(" + by + ", " + b + ")", fast.lose(by, b), slow.lose(by, b));
            case 8:
                b = random.nextInt(3) == 0 ? pick(0, 9) : 0;
                return same("night(" + by + ", " + b + ")", fast.night(by, b), slow.night(by, b));
            case 9: e = random.nextInt(2) == 0 ? by : e; return same("slots(" + e + ")", fast.slots(e), slow.slots(e));
            case 10: case 11: return planned();
            case 12: return same("planOf(" + a + ")", fast.planOf(a), slow.planOf(a));
            default: a = pick(0, 2); return same("press(" + a + ")", fast.press(a), slow.press(a));
        }
    }

    private boolean planned() {
        int n = slow.w.jobs.size(), digits = 0, taken = 0;
        for (int i = 0; i < n; i++) {
            int job = random.nextInt(n);
            while ((taken >> job & 1) == 1) job = (job + 1) % n;
            taken |= 1 << job;
            digits |= job << 3 * i;
        }
        if (random.nextInt(8) == 0) digits ^= 1 << random.nextInt(32);
        return same("plan(" + digits + ")", fast.plan(digits), slow.plan(digits));
    }

    private boolean aboutWorth() {
        int what = pick(0, 1), a = pick(0, 5), b = pick(1, 9), c = pick(0, 1), by = soon(), e = pick(0, 99);
        // What the slow one does slowly is asked less often.
        switch (random.nextInt(40)) {
            case 0: case 1: return same("best(" + what + ")", fast.best(what), slow.best(what));
            case 2: case 3: return same("fewest()", fast.fewest(), slow.fewest());
            case 4:
                return same("soonest(" + a + ", " + b + ", " + c + ")", fast.soonest(a, b, c), slow.soonest(a, b, c));
            case 5:
                return same("gain(" + a + ", " + b + ", " + c + ", " + by + ", " + e + ")",
                    fast.gain(a, b, c, by, e), slow.gain(a, b, c, by, e));
            case 6: return same("across(" + what + ")", fast.across(what), slow.across(what));
            case 7: return same("nights()", fast.nights(), slow.nights());
            case 8:
                if (slow.w.jobs.size() > 4 && random.nextInt(8) > 0) return true;
                what = pick(0, 2);
                return same("safest(" + what + ")", fast.safest(what), slow.safest(what));
            case 9: case 10: case 11: return same("sure(" + what + ")", fast.sure(what), slow.sure(what));
            case 12: case 13: case 14: return same("mean(" + what + ")", fast.mean(what), slow.mean(what));
            case 15: case 16: case 17: case 18: case 19: return same("late()", fast.late(), slow.late());
            case 20: case 21: case 22: case 23: case 24: return same("worth()", fast.worth(), slow.worth());
            default: return same("ends(" + a + ")", fast.ends(a), slow.ends(a));
        }
    }

    private boolean aboutTypes() {
        int a = pick(0, 5), b = pick(1, 9), c = pick(0, 1), d = pick(0, 20), e = pick(0, 99), f = pick(1, 2);
        switch (random.nextInt(12)) {
            case 0: case 1:
                return same("type(" + a + ", " + b + ", " + c + ", " + d + ", " + e + ", " + f + ")",
                    fast.type(a, b, c, d, e, f), slow.type(a, b, c, d, e, f));
            case 2: c = pick(0, 2); return same("typeOf(" + c + ", " + a + ")", fast.typeOf(c, a), slow.typeOf(c, a));
            case 3: {
                int n = pick(0, 3);
                return same("ahead(" + n + ", " + c + ")", fast.ahead(n, c), slow.ahead(n, c));
            }
            case 4: case 5: case 6: return same("comes()", fast.comes(), slow.comes());
            case 7: {
                int v = random.nextInt();
                return same("seed(" + v + ")", fast.seed(v), slow.seed(v));
            }
            case 8: case 9: return same("goes()", fast.goes(), slow.goes());
            default: return same("till()", fast.till(), slow.till());
        }
    }

    private boolean aboutRows() {
        int i = pick(0, 5), what = pick(0, 2), v = random.nextInt(8) == 0 ? random.nextInt() : pick(-10, 30);
        switch (random.nextInt(8)) {
            case 0: case 1: return same("prove()", fast.prove(), slow.prove());
            case 2: return same("row(" + i + ", " + what + ")", fast.row(i, what), slow.row(i, what));
            case 3:
                return same("alterRow(" + i + ", " + what + ", " + v + ")",
                    fast.alterRow(i, what, v), slow.alterRow(i, what, v));
            default: return same("judge()", fast.judge(), slow.judge());
        }
    }

    private boolean aboutHost() {
        int a = pick(0, 3), b = pick(0, 3), v = random.nextInt();
        switch (random.nextInt(9)) {
            case 0: {
                int sort = pick(-1, 3), n = pick(0, 40);
                return same("sheet(" + a + ", " + sort + ", " + n + ")", fast.sheet(a, sort, n), slow.sheet(a, sort, n));
            }
            case 1: {
                int i = pick(0, 39);
                return same("put(" + a + ", " + i + ", " + v + ")", fast.put(a, i, v), slow.put(a, i, v));
            }
            case 2: {
                int i = pick(0, 39);
                return same("item(" + a + ", " + b + ", " + i + ")", fast.item(a, b, i), slow.item(a, b, i));
            }
            case 3: case 4: {
                int what = pick(0, 2), n = pick(0, what == 0 ? 5 : 3);
                return same("shelf(" + a + ", " + what + ", " + n + ")", fast.shelf(a, what, n), slow.shelf(a, what, n));
            }
            case 5: {
                int as = random.nextInt(3) == 0 ? pick(10, 13) : pick(0, 5);
                return same("taken(" + a + ", " + as + ")", fast.taken(a, as), slow.taken(a, as));
            }
            case 6: {
                int x = random.nextInt(3) == 0 ? v : pick(-20, 20);
                if (!same("act(" + a + ", " + b + ", " + x + ")", fast.act(a, b, x), slow.act(a, b, x))) return false;
                boolean right = true;
                for (int i = 0; i < 9; i++) right &= same("trace(" + i + ")", fast.trace(i), slow.trace(i));
                return right;
            }
            case 7: {
                int i = pick(0, 8);
                return same("trace(" + i + ")", fast.trace(i), slow.trace(i));
            }
            default: {
                int what = pick(0, 4);
                return same("many(" + what + ")", fast.many(what), slow.many(what));
            }
        }
    }

    /** A look at all that can be seen at no great cost. */
    private boolean everything() {
        boolean right = true;
        for (int i = 0; i < 5; i++) right &= same("many(" + i + ")", fast.many(i), slow.many(i));
        for (int i = 0; i < 6; i++) {
            right &= same("planOf(" + i + ")", fast.planOf(i), slow.planOf(i));
            for (int k = 0; k < 5; k++) right &= same("jobOf(" + i + ", " + k + ")", fast.jobOf(i, k), slow.jobOf(i, k));
            for (int k = 0; k < 3; k++) right &= same("row(" + i + ", " + k + ")", fast.row(i, k), slow.row(i, k));
        }
        for (int i = 0; i < 100; i++) right &= same("slots(" + i + ")", fast.slots(i), slow.slots(i));
        for (int i = 0; i < 3; i++) {
            right &= same("press(" + i + ")", fast.press(i), slow.press(i));
            for (int k = 0; k < 6; k++) right &= same("typeOf(" + i + ", " + k + ")", fast.typeOf(i, k), slow.typeOf(i, k));
        }
        return right;
    }

    public static void main(String[] args) {
        for (int run = 1; run <= RUNS; run++) {
            ModelTest test = new ModelTest(run);
            for (int i = 0; i < CALLS; i++) {
                if (!test.step()) {
                    System.out.println("run " + run + " isn't as due");
                    System.exit(1);
                }
            }
        }
        System.out.println("ModelTest: " + RUNS + " runs are as due");
    }
}
