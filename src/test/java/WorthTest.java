/** Promises 14 to 25: what it is worth. */
public final class WorthTest {
    private static final Due T = new Due("WorthTest");
    private static final int MIN = Integer.MIN_VALUE, MAX = Integer.MAX_VALUE, NO = PressDays.NO;
    private static final int[] NOT_0_1 = {-1, 2, MIN, MAX};

    public static void main(String[] args) {
        ends();
        endsFarOff();
        longest();
        worthOfKinds();
        lateAndWorth();
        best();
        firstOfBest();
        fewest();
        soonest();
        gain();
        across();
        nights();
        sure();
        safest();
        mean();
        T.end();
    }

    /** Two slots a day: by the plan 0, 1, 2 they end on days 1, 2, 3, and the last is late. */
    private static PressDays three() {
        PressDays x = new PressDays();
        x.job(0, 3, 0, 1, 10);
        x.job(1, 2, 1, 2, 20);
        x.job(0, 1, 0, 0, 7);
        return x;
    }

    private static PressDays oneSlot() {
        PressDays x = new PressDays();
        x.set(0, 1);
        return x;
    }

    private static void ends() {
        T.promise(14);
        PressDays x = three();
        int[] due = {1, 2, 3};
        for (int i = 0; i < 3; i++) T.due("ends(" + i + ")", x.ends(i), due[i]);
        for (int job : new int[] {-1, 3, MIN, MAX}) T.due("ends(" + job + ")", x.ends(job), -1);
        x.plan(0012);
        due = new int[] {3, 1, 0};
        for (int i = 0; i < 3; i++) T.due("ends(" + i + ") by 2, 1, 0", x.ends(i), due[i]);
        x.set(1, 0);
        due = new int[] {2, 1, 0};
        for (int i = 0; i < 3; i++) T.due("ends(" + i + ") without setting", x.ends(i), due[i]);
        x.lose(1, 2);
        x.night(0, 1);
        due = new int[] {3, 0, 0};
        for (int i = 0; i < 3; i++) T.due("ends(" + i + ") with a night", x.ends(i), due[i]);
        // What setting the press has left counts, but only for the colour that it has.
        x = oneSlot();
        x.set(1, 3);
        x.job(0, 1, 1, 0, 0);
        x.job(0, 1, 0, 0, 0);
        x.goes();
        T.due("ends(0) while it is set", x.ends(0), 3);
        T.due("ends(1) while it is set", x.ends(1), 7);
        x.plan(1);
        T.due("ends(1) set anew", x.ends(1), 4);
        T.due("ends(0) set anew", x.ends(0), 8);
        x.set(1, 0);
        T.due("ends(1) of no setting", x.ends(1), 1);
        x.plan(8);
        T.due("ends(0): what is left stays", x.ends(0), 3);
    }

    private static void endsFarOff() {
        T.promise(14);
        PressDays x = oneSlot();
        x.set(1, 3);
        for (int day = 0; day <= 60; day++) x.lose(day, 9);
        for (int i = 0; i < 6; i++) x.job(0, 9, (i + 1) % 2, 60, 1);
        for (int i = 0; i < 6; i++) T.due("ends(" + i + ")", x.ends(i), 60 + 12 * (i + 1));
        for (int day = 0; day < 60; day++) x.goes();
        T.due("press(1): no slot, no setting", x.press(1), 0);
        T.due("ends(5) on day 60", x.ends(5), 132);
        x.set(3, 4);
        T.promise(25);
        T.due("mean(0) of all far off", x.mean(0), -30);
        T.promise(14);
        x.night(60, 9);
        T.due("ends(5) with nights", x.ends(5), 123);
        T.promise(23);
        T.due("sure(0)", x.sure(0), 0);
        T.promise(25);
        T.due("mean(0)", x.mean(0), -30);
    }

    /** As many slots as there can be: six jobs, each twice as long and set anew: 126. */
    private static void longest() {
        PressDays x = new PressDays();
        x.set(0, 4);
        x.set(1, 3);
        x.set(3, 4);
        for (int day = 0; day < 9; day++) x.night(day, 9);
        x.night(9, 4);
        for (int i = 0; i < 5; i++) x.job(0, 9, (i + 1) % 2, 60, 1);
        x.job(0, 9, 0, 9, 1);
        T.promise(23);
        T.due("sure(0) with 125 slots in time", x.sure(0), 0);
        T.promise(25);
        T.due("mean(0) with 125 slots in time", x.mean(0), 0);
        x.night(9, 5);
        T.promise(23);
        T.due("sure(0) with 126 slots in time", x.sure(0), 1);
        T.promise(25);
        T.due("mean(0) with 126 slots in time", x.mean(0), 6);
    }

    private static int worthOne(int kind, int slots, int by, int price) {
        PressDays x = oneSlot();
        x.set(2, 7);
        x.job(kind, slots, 0, by, price);
        return x.worth();
    }

    private static void worthOfKinds() {
        T.promise(16);
        for (int kind = 0; kind <= 5; kind++) {
            T.due("worth of kind " + kind + " in time", worthOne(kind, 3, 2, 21), 21);
        }
        int[] oneLate = {-7, -14, 10, 3, 0, -7};
        int[] twoLate = {-7, -14, 10, 3, -14, -7};
        for (int kind = 0; kind <= 4; kind++) {
            T.due("worth of kind " + kind + " a day late", worthOne(kind, 4, 2, 21), oneLate[kind]);
            T.due("worth of kind " + kind + " two days late", worthOne(kind, 5, 2, 21), twoLate[kind]);
        }
        T.due("worth of a half", worthOne(5, 3, 1, 21), 21);
        T.due("worth of a half a day late", worthOne(5, 5, 1, 21), oneLate[5]);
        T.due("worth of a half two days late", worthOne(5, 8, 1, 21), twoLate[5]);
        T.due("worth of a cheap ticket", worthOne(3, 9, 0, 1), -7);
    }

    private static void lateAndWorth() {
        PressDays x = new PressDays();
        T.promise(15);
        T.due("late() of none", x.late(), 0);
        T.promise(16);
        T.due("worth() of none", x.worth(), 0);
        x = three();
        T.promise(15);
        T.due("late()", x.late(), 4);
        T.promise(16);
        T.due("worth()", x.worth(), 25);
        x.plan(0012);
        T.promise(15);
        T.due("late() by 2, 1, 0", x.late(), 1);
        T.promise(16);
        T.due("worth() by 2, 1, 0", x.worth(), 22);
        x.plan(0201);
        T.promise(15);
        T.due("late() by 1, 0, 2", x.late(), 5);
        T.promise(16);
        x.set(2, 99);
        T.due("worth() below 0", x.worth(), 20 - 198);
        // What is promised for a day that is past is late.
        x = oneSlot();
        x.job(4, 9, 0, 60, 1);
        x.goes();
        x.job(0, 1, 0, 0, 1);
        x.plan(1);
        T.promise(15);
        T.due("late() of a past day", x.late(), 2);
    }

    private static void best() {
        T.promise(17);
        PressDays x = new PressDays();
        T.due("best(0) of none", x.best(0), 0);
        T.due("best(1) of none", x.best(1), 0);
        for (int what : NOT_0_1) T.due("best(" + what + ")", x.best(what), NO);
        x = three();
        x.plan(0012);
        T.due("best(0)", x.best(0), 25);
        T.due("best(1)", x.best(1), 0210);
        T.due("planOf(0) stays", x.planOf(0), 2);
        x.night(0, 1);
        T.due("best(0) with a night", x.best(0), 37);
        T.due("best(1) with a night", x.best(1), 0102);
        x.night(0, 0);
        x.set(2, 99);
        T.due("best(0) with a great fine", x.best(0), 30 - 99);
        // The late poster still brings half of its price, the late wedding costs twice the fine.
        x = oneSlot();
        x.job(2, 1, 0, 0, 99);
        x.job(1, 1, 0, 0, 42);
        T.due("best(0) of two kinds", x.best(0), 91);
        T.due("best(1) of two kinds", x.best(1), 1);
        x.set(2, 0);
        T.due("best(0) of no fine", x.best(0), 99);
        T.due("best(1) of no fine", x.best(1), 010);
    }

    private static void firstOfBest() {
        T.promise(17);
        PressDays x = new PressDays();
        for (int i = 0; i < 6; i++) x.job(0, 1, 0, 60, i);
        x.plan(0012345);
        T.due("best(1) of all alike", x.best(1), 0543210);
        x = oneSlot();
        for (int i = 0; i < 3; i++) x.job(0, 1, 0, 0, 5);
        T.due("best(0) of one in time", x.best(0), -5);
        T.due("best(1) of one in time", x.best(1), 0210);
        x.drop(0);
        x.job(0, 1, 0, 0, 6);
        T.due("best(1) with a dearer one", x.best(1), 0102);
    }

    private static void fewest() {
        T.promise(18);
        PressDays x = new PressDays();
        T.due("fewest() of none", x.fewest(), 0);
        x = three();
        x.plan(0201);
        T.due("fewest()", x.fewest(), 1);
        x.night(0, 1);
        T.due("fewest() with a night", x.fewest(), 0);
        x = oneSlot();
        for (int i = 0; i < 6; i++) x.job(1, 9 - i, 0, 8, 99 * (i & 1));
        T.due("fewest() of six", x.fewest(), 4);
        x.lose(8, 1);
        T.due("fewest() of six and a lost slot", x.fewest(), 5);
        x.night(0, 1);
        T.due("fewest() of six and a night", x.fewest(), 4);
        for (int day = 0; day < 5; day++) x.lose(day, 1);
        T.due("fewest() of six and more lost slots", x.fewest(), 5);
        x.lose(5, 1);
        T.due("fewest() of six, none in time", x.fewest(), 6);
    }

    private static void soonest() {
        T.promise(19);
        PressDays x = new PressDays();
        T.due("soonest of none", x.soonest(0, 1, 0), 0);
        T.due("soonest of none, black", x.soonest(1, 9, 1), 4);
        T.due("soonest of a half", x.soonest(5, 9, 0), 2);
        x = three();
        T.due("soonest while one is late", x.soonest(0, 1, 0), -3);
        x.drop(2);
        T.due("soonest(0, 1, 0)", x.soonest(0, 1, 0), 3);
        T.due("soonest(0, 1, 1)", x.soonest(0, 1, 1), 3);
        x.night(2, 1);
        T.due("soonest(0, 1, 1) with a night", x.soonest(0, 1, 1), 2);
        T.due("soonest(0, 1, 0) with a night", x.soonest(0, 1, 0), 0);
        int[][] bad = {{-1, 1, 0}, {6, 1, 0}, {0, 0, 0}, {0, 10, 0}, {0, 1, -1}, {0, 1, 2}, {MIN, 1, 0}, {0, MAX, 0}};
        for (int[] b : bad) T.due("soonest(bad)", x.soonest(b[0], b[1], b[2]), -1);
        T.due("many(0) stays", x.many(0), 2);
        while (x.many(0) < 6) x.job(0, 1, 0, 60, 1);
        T.due("soonest of six", x.soonest(0, 1, 0), -2);
        for (int[] b : bad) T.due("soonest(bad) of six", x.soonest(b[0], b[1], b[2]), -1);
        x = oneSlot();
        for (int day = 0; day < 60; day++) x.lose(day, 1);
        T.due("soonest on day 60", x.soonest(0, 1, 0), 60);
        T.due("soonest behind day 60", x.soonest(0, 2, 0), -3);
        for (int day = 0; day < 60; day++) x.goes();
        T.due("soonest now", x.soonest(0, 1, 0), 60);
        x.night(60, 1);
        T.due("soonest now of two", x.soonest(4, 2, 0), 60);
    }

    private static void gain() {
        T.promise(20);
        PressDays x = three();
        T.due("gain of one far off", x.gain(0, 1, 0, 60, 9), 9);
        T.due("gain of a late one", x.gain(1, 9, 0, 0, 99), -10);
        T.due("gain that moves others", x.gain(0, 1, 0, 0, 50), 50 + 7 + 20 - 5 - 25);
        T.due("gain of a poster", x.gain(2, 9, 1, 0, 21), 10);
        T.due("many(0) stays", x.many(0), 3);
        int[][] bad = {{-1, 1, 0, 0, 0}, {6, 1, 0, 0, 0}, {0, 0, 0, 0, 0}, {0, 10, 0, 0, 0}, {0, 1, -1, 0, 0},
            {0, 1, 2, 0, 0}, {0, 1, 0, -1, 0}, {0, 1, 0, 61, 0}, {0, 1, 0, 0, -1}, {0, 1, 0, 0, 100}};
        for (int[] b : bad) T.due("gain(bad)", x.gain(b[0], b[1], b[2], b[3], b[4]), NO);
        while (x.many(0) < 6) x.job(0, 1, 0, 60, 1);
        T.due("gain of six", x.gain(0, 1, 0, 60, 9), NO);
        x.drop(5);
        T.due("gain of five", x.gain(0, 1, 0, 60, 9), 9);
        T.due("gain of none", new PressDays().gain(5, 8, 0, 1, 9), 9);
    }

    private static void across() {
        T.promise(21);
        PressDays x = new PressDays();
        T.due("across(0) of none", x.across(0), -9);
        T.due("across(1) of none", x.across(1), 0);
        for (int what : NOT_0_1) T.due("across(" + what + ")", x.across(what), NO);
        x = three();
        // Without 0: 2 and 1 both in time, 27 and a half of 10; without 1: 17 and 10; without 2: 30 and 3.
        T.due("across(0)", x.across(0), 2);
        T.due("across(1)", x.across(1), 33);
        T.due("many(0) stays", x.many(0), 3);
        x.night(0, 1);
        T.due("across(0) of none late", x.across(0), -9);
        T.due("across(1) of none late", x.across(1), 37);
        // Only 0 and 2 stand in each other's way.
        x = oneSlot();
        x.job(0, 1, 0, 0, 8);
        x.job(0, 1, 0, 60, 2);
        x.job(0, 1, 0, 0, 6);
        T.due("across(0) of two in the way", x.across(0), 2);
        T.due("across(1) of two in the way", x.across(1), 13);
        // What has gone counts no more.
        x.job(0, 1, 0, 60, 99);
        x.drop(3);
        T.due("across(0) behind a drop", x.across(0), 2);
        // None is ahead of those that bring as much, then the first.
        x = oneSlot();
        x.job(2, 1, 0, 0, 11);
        T.due("across(0) of a poster in time", x.across(0), -9);
        x.lose(0, 1);
        T.due("across(0) of a late poster", x.across(0), -9);
        T.due("across(1) of a late poster", x.across(1), 5);
        x.drop(0);
        x.job(0, 1, 0, 0, 8);
        x.job(0, 1, 0, 0, 9);
        T.due("across(0) of two alike", x.across(0), 0);
        T.due("across(1) of two alike", x.across(1), -1);
        x.lose(0, 0);
        x.drop(0);
        x.job(0, 1, 0, 0, 7);
        T.due("across(0) of the second", x.across(0), 1);
        T.due("across(1) of the second", x.across(1), 12);
    }

    private static void nights() {
        T.promise(22);
        PressDays x = new PressDays();
        T.due("nights() of none", x.nights(), 0);
        x = three();
        T.due("nights()", x.nights(), 1);
        x.night(0, 1);
        T.due("nights() with one", x.nights(), 0);
        x = oneSlot();
        x.job(0, 9, 0, 8, 1);
        T.due("nights() of nine", x.nights(), 0);
        x.job(0, 9, 0, 8, 1);
        T.due("nights() of eighteen", x.nights(), 9);
        x.set(1, 0);
        x.lose(4, 9);
        T.due("nights() of eighteen and a lost day", x.nights(), -3);
        x.night(8, 1);
        T.due("nights() where more are needed", x.nights(), 9);
        x.drop(0);
        T.due("nights(): a lost day has one more, too", x.nights(), 0);
        x.night(8, 0);
        T.due("nights(): a lost day has one more, too", x.nights(), 1);
        x = oneSlot();
        x.job(0, 9, 0, 9, 1);
        x.job(0, 9, 0, 9, 1);
        x.job(0, 1, 0, 9, 1);
        T.due("nights() of nineteen", x.nights(), 9);
        x.job(0, 1, 0, 9, 1);
        T.due("nights() of twenty", x.nights(), -3);
        // They count from now on.
        x = oneSlot();
        x.job(0, 9, 0, 9, 1);
        x.lose(0, 1);
        x.lose(9, 1);
        T.due("nights() on day 0", x.nights(), 1);
        x.goes();
        T.due("nights() on day 1", x.nights(), 1);
        x = new PressDays();
        x.lose(0, 2);
        x.job(0, 1, 0, 0, 1);
        T.due("nights() today", x.nights(), 1);
        x.goes();
        T.due("nights() too late", x.nights(), -3);
    }

    private static void sure() {
        T.promise(23);
        PressDays x = oneSlot();
        T.due("sure(0) of none", x.sure(0), 1);
        T.due("sure(1) of none", x.sure(1), 1);
        for (int part : NOT_0_1) T.due("sure(" + part + ")", x.sure(part), -1);
        x.job(0, 1, 0, 0, 9);
        T.due("sure(0) of one", x.sure(0), 3);
        T.due("sure(1) of one", x.sure(1), 4);
        x.job(0, 1, 0, 2, 9);
        T.due("sure(0) of two", x.sure(0), 3);
        T.due("sure(1) of two", x.sure(1), 4);
        x.drop(1);
        x.job(0, 1, 0, 1, 9);
        T.due("sure(0) of two in haste", x.sure(0), 9);
        T.due("sure(1) of two in haste", x.sure(1), 16);
        x.plan(1);
        T.due("sure(0) of none in time", x.sure(0), 0);
        T.due("sure(1) of none in time", x.sure(1), 1);
        x.plan(010);
        x.set(3, 2);
        T.due("sure(0) of odds 2", x.sure(0), 1);
        T.due("sure(1) of odds 2", x.sure(1), 4);
        x.set(3, 0);
        T.due("sure(0) of odds 0", x.sure(0), 1);
        T.due("sure(1) of odds 0", x.sure(1), 1);
        x.set(3, 4);
        T.due("sure(0) of odds 4", x.sure(0), 0);
        x.night(0, 1);
        x.night(1, 1);
        T.due("sure(0) of odds 4 with nights", x.sure(0), 1);
        // One of two may turn out long: the rest, not what it was, is doubled; setting isn't.
        x = oneSlot();
        x.job(0, 3, 0, 4, 9);
        x.job(0, 1, 1, 6, 9);
        x.goes();
        x.goes();
        // 1 slot is left of the first: days 2 or 2 to 3; then setting; then 1 or 2 slots: 4, 5, 5, 6.
        T.due("sure(0) of rest", x.sure(0), 1);
        x.lose(6, 1);
        T.due("sure(0) of rest with a lost day", x.sure(0), 15);
        T.due("sure(1) of rest with a lost day", x.sure(1), 16);
    }

    private static void safest() {
        T.promise(24);
        PressDays x = oneSlot();
        T.due("safest(0) of none", x.safest(0), 0);
        T.due("safest(1) of none", x.safest(1), 1);
        T.due("safest(2) of none", x.safest(2), 1);
        for (int what : new int[] {-1, 3, MIN, MAX}) T.due("safest(" + what + ")", x.safest(what), -1);
        x.job(0, 1, 0, 1, 9);
        x.job(0, 1, 0, 0, 9);
        T.due("safest(0)", x.safest(0), 1);
        T.due("safest(1)", x.safest(1), 9);
        T.due("safest(2)", x.safest(2), 16);
        T.due("planOf(0) stays", x.planOf(0), 0);
        x.job(0, 1, 0, 60, 9);
        T.due("safest(0) of three", x.safest(0), 0201);
        x.lose(0, 1);
        T.due("safest(0) where none is sure", x.safest(0), 0210);
        T.due("safest(1) where none is sure", x.safest(1), 0);
        T.due("safest(2) where none is sure", x.safest(2), 1);
        x.lose(0, 0);
        x.set(3, 0);
        T.due("safest(0) of odds 0", x.safest(0), 0201);
        T.due("safest(1) of odds 0", x.safest(1), 1);
        T.due("safest(2) of odds 0", x.safest(2), 1);
        // The first order has odds, too: 9 by 16 for 0 ahead of 1, 15 by 16 for 1 ahead of 0.
        x = oneSlot();
        x.job(0, 1, 0, 2, 9);
        x.job(0, 1, 0, 1, 9);
        x.job(0, 1, 0, 60, 9);
        T.due("safest(0) of odds for all", x.safest(0), 0201);
        T.due("safest(1) of odds for all", x.safest(1), 15);
        T.due("safest(2) of odds for all", x.safest(2), 16);
        x.set(3, 3);
        T.due("safest(1) of odds 3", x.safest(1), 7);
        T.due("safest(2) of odds 3", x.safest(2), 16);
        x.plan(0201);
        T.promise(23);
        T.due("sure(0) of odds 3", x.sure(0), 7);
        T.promise(24);
        // The one with the most worth isn't the surest.
        x = oneSlot();
        x.job(0, 1, 0, 0, 99);
        x.job(0, 5, 0, 4, 1);
        x.job(0, 4, 0, 60, 1);
        T.due("best(1)", x.best(1), 0210);
        T.due("safest(0) of a late one", x.safest(0), 0210);
        T.due("safest(1) of a late one", x.safest(1), 0);
    }

    private static void mean() {
        T.promise(25);
        PressDays x = oneSlot();
        T.due("mean(0) of none", x.mean(0), 0);
        T.due("mean(1) of none", x.mean(1), 1);
        for (int part : NOT_0_1) T.due("mean(" + part + ")", x.mean(part), NO);
        x.job(0, 1, 0, 0, 10);
        T.due("mean(0) of one", x.mean(0), 25);
        T.due("mean(1) of one", x.mean(1), 4);
        x.job(0, 1, 0, 1, 6);
        // 9 times 16, 3 times 10 - 5, 3 times 6 - 5 at best late: -5 - 5, once -10.
        T.due("mean(0) of two", x.mean(0), 9 * 16 + 3 * 5 - 3 * 10 - 10);
        T.due("mean(1) of two", x.mean(1), 16);
        x.plan(1);
        T.due("mean(0) of two, the other way", x.mean(0), 6 - 5);
        T.due("mean(1) of two, the other way", x.mean(1), 1);
        x.plan(010);
        x.set(3, 4);
        T.due("mean(0) of odds 4", x.mean(0), -10);
        T.due("mean(1) of odds 4", x.mean(1), 1);
        x.set(3, 0);
        T.due("mean(0) of odds 0", x.mean(0), 16);
        T.due("mean(1) of odds 0", x.mean(1), 1);
        // With setting: on days 0 or 0 to 1, then setting, then 2, 3, 3, 4; odds 3.
        x = oneSlot();
        x.set(3, 3);
        x.job(0, 1, 0, 0, 11);
        x.job(0, 1, 1, 3, 7);
        T.due("mean(0) with setting", x.mean(0), ((1 * 11 - 3 * 5) * 4 + 7 * 7 - 9 * 5) / 4);
        T.due("mean(1) with setting", x.mean(1), 4);
        x = oneSlot();
        x.set(3, 2);
        x.job(0, 1, 0, 0, 5);
        T.due("mean(0) of 0", x.mean(0), 0);
        T.due("mean(1) of 0", x.mean(1), 1);
    }
}
