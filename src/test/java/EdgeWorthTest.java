/** Promises 14 to 25 at their edges, sentence by sentence. */
public final class EdgeWorthTest {
    private static final Due T = new Due("EdgeWorthTest");
    private static final int MIN = Due.MIN, MAX = Due.MAX, NO = PressDays.NO;
    private static final int[][] EDGE_JOBS = {{0, 1, 0, 0, 0}, {5, 1, 0, 0, 0}, {0, 9, 0, 0, 0}, {0, 1, 1, 0, 0},
        {0, 1, 0, 60, 0}, {0, 1, 0, 0, 99}, {5, 9, 1, 60, 99}};

    public static void main(String[] args) {
        endsOfOne();
        endsOfTwo();
        settingLeft();
        settingIsLeftAnew();
        pressTakesColour();
        endsBehind60();
        lateByADay();
        lateOfSix();
        worthAtEdges();
        least();
        bestOfNoneAndSix();
        bestIsFirst();
        fewestOfSix();
        soonestNumbers();
        soonestDays();
        gainNumbers();
        gainOfOne();
        acrossTies();
        nightsFromNone();
        nightsFromNow();
        sureOfOne();
        sureOfSix();
        safestTies();
        meanOfOne();
        meanOfSix();
        T.end();
    }

    /** "In a SLOT, if SETTING is left, that is 1 less; else the JOB's REST is 1 less; when it is 0, the JOB ENDS". */
    private static void endsOfOne() {
        T.promise(14);
        for (int slots = 1; slots <= 4; slots++) {
            for (int setting = 0; setting <= 3; setting++) {
                PressDays x = Due.press(slots, setting);
                for (int rest = 1; rest <= 9; rest++) {
                    for (int colour = 0; colour < 2; colour++) {
                        x.job(0, rest, colour, 0, 0);
                        int due = (rest + colour * setting - 1) / slots;
                        T.due("ends(0) of " + rest + ", colour " + colour, x.ends(0), due);
                        x.drop(0);
                    }
                }
                T.due("ends(0) of none", x.ends(0), -1);
            }
        }
        PressDays x = Due.press(1, 0);
        for (int i = 0; i < 6; i++) {
            T.due("ends(" + i + ") of " + i, x.ends(i), -1);
            x.job(0, 1, 0, 0, 0);
            T.due("ends(" + i + ")", x.ends(i), i);
        }
        for (int job : new int[] {-1, 6, MIN, MAX}) T.due("ends(" + job + ") of six", x.ends(job), -1);
    }

    /** "the next SLOT is for the next one": on the same day, if there is one left; a lost day, a night between. */
    private static void endsOfTwo() {
        T.promise(14);
        for (int first = 1; first <= 4; first++) {
            PressDays x = Due.press(3, 0);
            x.job(0, first, 0, 0, 0);
            x.job(0, 1, 1, 0, 0);
            int[] due = {0, 0, 1, 1};
            T.due("ends(1) behind " + first, x.ends(1), due[first - 1]);
            x.lose(0, 9);
            T.due("ends(1) behind " + first + ", day 0 lost", x.ends(1), due[first - 1] + 1);
            x.night(0, 1);
            T.due("ends(0) of " + first + ", one night", x.ends(0), first == 1 ? 0 : 1);
            T.due("ends(1) behind " + first + ", one night", x.ends(1), first == 4 ? 2 : 1);
            x.night(0, 9);
            T.due("ends(1) behind " + first + ", nine nights", x.ends(1), 0);
        }
        PressDays x = Due.press(1, 1);
        x.night(0, 9);
        for (int i = 0; i < 5; i++) x.job(0, 1, i % 2, 0, 0);
        // Slots 1, 3, 5, 7, 9 of ten.
        for (int i = 0; i < 5; i++) T.due("ends(" + i + ") in one night", x.ends(i), 0);
        x.job(0, 1, 0, 0, 0);
        T.due("ends(5) in its last slot", x.ends(5), 0);
        x.night(0, 8);
        T.due("ends(5) in the next day's first slot", x.ends(5), 1);
    }

    /** What is left of the setting counts for a job of that colour, whichever it is. */
    private static void settingLeft() {
        T.promise(14);
        PressDays x = Due.press(1, 3);
        x.job(0, 2, 1, 0, 0);
        x.job(0, 2, 1, 0, 0);
        x.job(0, 2, 0, 0, 0);
        // Black is set on days 0 to 2, job 0 is worked on days 3 and 4, job 1 on 5 and 6, job 2 set on 7 to 9.
        int[] due = {4, 6, 11}, left = {0, 2, 1, 0, 0}, rest = {2, 2, 2, 2, 1};
        for (int day = 0; day < 5; day++) {
            T.due("press(2) on day " + day, x.press(2), left[day]);
            T.due("jobOf(0, 1) on day " + day, x.jobOf(0, 1), rest[day]);
            for (int i = 0; i < 3; i++) T.due("ends(" + i + ") on day " + day, x.ends(i), due[i]);
            // The second of that colour goes on with what is left, and the first one behind it isn't set again.
            x.plan(0201);
            int second = Math.max(day, 3) + 1;
            T.due("ends(1) if it is first, on day " + day, x.ends(1), second);
            T.due("ends(0) if it is second, on day " + day, x.ends(0), second + rest[day]);
            // One of the other colour must be set anew, unless nothing has been set yet.
            x.plan(0102);
            T.due("ends(2) if it is first, on day " + day, x.ends(2), day == 0 ? 1 : day + 3 + 1);
            x.plan(0210);
            x.goes();
        }
        T.due("many(0) behind five days", x.many(0), 2);
    }

    /** "SETTING is left anew": by the law as it is then; what is left stays when the law or the plan changes. */
    private static void settingIsLeftAnew() {
        T.promise(14);
        PressDays x = Due.press(1, 3);
        x.job(0, 1, 1, 0, 0);
        x.goes();
        T.due("press(2)", x.press(2), 2);
        x.set(1, 0);
        T.due("press(2) of another law", x.press(2), 2);
        T.due("ends(0) of another law", x.ends(0), 3);
        x.drop(0);
        T.due("press(2) without the job", x.press(2), 2);
        x.job(0, 1, 1, 0, 0);
        T.due("ends(0) of another job of the colour", x.ends(0), 3);
        x.goes();
        T.due("press(2) a day on", x.press(2), 1);
        x.job(0, 1, 0, 0, 0);
        x.plan(1);
        T.due("ends(1) where there is no setting", x.ends(1), 2);
        T.due("ends(0) where there is no setting", x.ends(0), 3);
        x.goes();
        T.due("press(1)", x.press(1), 0);
        T.due("press(2): anew, of no setting", x.press(2), 0);
        x.set(1, 3);
        T.due("ends(0) where there is setting again", x.ends(0), 3 + 3);
    }

    /** The press has a job's colour when the job is worked, neither ahead of it nor in a slot that isn't there. */
    private static void pressTakesColour() {
        T.promise(13);
        PressDays x = Due.press(1, 2);
        x.job(0, 1, 0, 0, 0);
        x.job(0, 1, 1, 0, 0);
        T.due("press(1) at first", x.press(1), 0);
        x.goes();
        T.due("press(1) behind a job's last slot", x.press(1), 0);
        T.due("press(2) behind a job's last slot", x.press(2), 0);
        x.lose(1, 1);
        x.goes();
        T.due("press(1) behind a lost day", x.press(1), 0);
        x.goes();
        T.due("press(1) while it is set", x.press(1), 1);
        T.due("press(2) while it is set", x.press(2), 1);
        x.goes();
        T.due("press(2) when it is set", x.press(2), 0);
        T.due("jobOf(0, 1) when it is set", x.jobOf(0, 1), 1);
        x.goes();
        T.due("many(0)", x.many(0), 0);
        T.due("press(1) stays without jobs", x.press(1), 1);
        T.due("press(0)", x.press(0), 5);
        for (int what : new int[] {-1, 3, MIN, MAX}) T.due("press(" + what + ")", x.press(what), -1);
    }

    /** "DAYS behind 60 have SLOTS". */
    private static void endsBehind60() {
        T.promise(14);
        PressDays x = Due.press(2, 3);
        for (int i = 0; i < 60; i++) x.goes();
        x.job(0, 1, 0, 60, 7);
        x.job(0, 2, 0, 60, 7);
        T.due("ends(0) on day 60", x.ends(0), 60);
        T.due("ends(1) on day 61", x.ends(1), 61);
        x.lose(60, 1);
        T.due("ends(0) with a slot lost", x.ends(0), 60);
        x.lose(60, 9);
        T.due("ends(0) with all slots lost", x.ends(0), 61);
        T.due("ends(1) with all slots lost", x.ends(1), 62);
        x.night(60, 3);
        T.due("ends(1) with three nights", x.ends(1), 60);
        T.promise(15);
        T.due("late()", x.late(), 0);
        x.night(60, 2);
        T.due("late() of 61", x.late(), 2);
        T.promise(16);
        T.due("worth()", x.worth(), 7 - 5);
    }

    /** "LATE: it ENDS behind the DAY promised": not on it. */
    private static void lateByADay() {
        for (int kind = 0; kind < 6; kind++) {
            for (int by = 0; by <= 4; by++) {
                PressDays x = Due.press(1, 0);
                x.job(kind, kind == 5 ? 5 : 3, 0, by, 9);
                T.promise(15);
                T.due("late() of a job that ends on day 2, by " + by, x.late(), by < 2 ? 1 : 0);
                T.promise(18);
                T.due("fewest(), by " + by, x.fewest(), by < 2 ? 1 : 0);
            }
        }
    }

    private static void lateOfSix() {
        T.promise(15);
        for (int bits = 0; bits < 64; bits++) {
            PressDays x = Due.press(4, 0);
            x.night(0, 2);
            x.night(1, 9);
            for (int i = 0; i < 6; i++) x.job(0, 1, 0, (bits >> i & 1) == 1 ? 0 : 1, 0);
            T.due("late() of none", x.late(), 0);
            x.lose(0, 4);
            x.night(0, 0);
            T.due("late() of those promised for today", x.late(), bits);
        }
        PressDays x = Due.press(1, 0);
        for (int i = 0; i < 6; i++) x.job(0, 1, 0, 0, 0);
        T.due("late() of all but one", x.late(), 62);
        x.plan(0432105);
        T.due("late() of all but the last", x.late(), 31);
        x.drop(5);
        T.due("late() of five", x.late(), 30);
    }

    /** Worth in time, one day late, two days late: by the fine and the price at their least and most. */
    private static void worthAtEdges() {
        T.promise(16);
        int[] prices = {0, 1, 2, 98, 99}, fines = {0, 1, 99};
        for (int kind = 0; kind < 6; kind++) {
            for (int fine : fines) {
                for (int price : prices) {
                    int once = 0 - fine, half = price / 2;
                    int[] oneLate = {once, 2 * once, half, half - fine, 0, once};
                    int[] twoLate = {once, 2 * once, half, half - fine, 2 * once, once};
                    int[] due = {price, price, oneLate[kind], twoLate[kind], twoLate[kind]};
                    PressDays x = Due.press(1, 0);
                    x.set(2, fine);
                    // It ends on day 3: in time by 4 and 3, then late by one, two and three days.
                    for (int late = -1; late <= 3; late++) {
                        x.job(kind, kind == 5 ? 8 : 4, 0, 3 - late, price);
                        String call = "worth() of kind " + kind + ", fine " + fine + ", price " + price + ", late " + late;
                        T.due(call, x.worth(), due[late + 1]);
                        x.drop(0);
                    }
                }
            }
        }
    }

    /** The least worth there can be. */
    private static void least() {
        PressDays x = Due.press(1, 3);
        x.set(2, 99);
        x.set(3, 4);
        for (int i = 0; i < 6; i++) x.job(1, 9, 1, 0, 99);
        T.promise(16);
        T.due("worth()", x.worth(), -1188);
        T.promise(17);
        T.due("best(0)", x.best(0), -1188);
        T.promise(18);
        T.due("fewest()", x.fewest(), 6);
        T.promise(21);
        T.due("across(0)", x.across(0), 0);
        T.due("across(1)", x.across(1), -990 + 49);
        T.promise(25);
        T.due("mean(0)", x.mean(0), -1188);
        T.due("mean(1)", x.mean(1), 1);
        x.drop(5);
        T.promise(20);
        T.due("gain", x.gain(1, 9, 0, 0, 99), -198);
        T.due("gain of a job", x.gain(0, 9, 0, 0, 99), -99);
    }

    private static void bestOfNoneAndSix() {
        T.promise(17);
        PressDays x = Due.press(1, 0);
        int[] digits = {0, 0, 010, 0210, 03210, 043210, 0543210};
        for (int n = 0; n <= 6; n++) {
            T.due("best(0) of " + n, x.best(0), n == 0 ? 0 : 10 * n);
            T.due("best(1) of " + n, x.best(1), digits[n]);
            for (int what : Due.OUT_OF_2) T.due("best(" + what + ") of " + n, x.best(what), NO);
            if (n < 6) x.job(0, 1, 0, n, 10);
        }
        // With each in time by one order alone, the last one first.
        for (int i = 0; i < 6; i++) x.drop(0);
        for (int i = 0; i < 6; i++) x.job(0, 1, 0, 5 - i, 10);
        T.due("best(0) of the other order", x.best(0), 60);
        T.due("best(1) of the other order", x.best(1), 0012345);
        T.due("worth() of the plan", x.worth(), 3 * 10 - 3 * 5);
        // With fewer there is a day to spare, then two; what was there counts nothing.
        int[] left = {0, 0, 010, 0210, 02310, 012340};
        for (int n = 5; n >= 0; n--) {
            x.drop(n);
            T.due("best(1) of " + n + " left", x.best(1), left[n]);
        }
    }

    /** "of several the first (by the numbers of JOBS)": not the plan's, not the last. */
    private static void bestIsFirst() {
        T.promise(17);
        PressDays x = Due.press(1, 0);
        // Only job 1 is in a hurry; 0 and 2 are as well on any day.
        x.job(0, 1, 0, 60, 5);
        x.job(0, 1, 0, 1, 5);
        x.job(0, 1, 0, 60, 5);
        x.plan(0012);
        T.due("best(1) where the second may be second", x.best(1), 0210);
        x.lose(1, 1);
        T.due("best(1) where the second must be first", x.best(1), 0201);
        x.lose(0, 1);
        T.due("best(1) where the second is late anyway", x.best(1), 0210);
        x.drop(1);
        x.job(0, 1, 0, 2, 5);
        T.due("best(1) where the third must be first", x.best(1), 0102);
        // Of equal prices the first one in time.
        x = Due.press(1, 0);
        for (int i = 0; i < 6; i++) x.job(0, 1, 0, 0, 7);
        T.due("best(1) of one in time", x.best(1), 0543210);
        x.drop(5);
        x.job(0, 1, 0, 0, 8);
        T.due("best(1) of the last in time", x.best(1), 0432105);
        T.due("best(0) of the last in time", x.best(0), 8 - 25);
    }

    /** From none to all of six. */
    private static void fewestOfSix() {
        T.promise(18);
        for (int by = 0; by <= 5; by++) {
            PressDays x = Due.press(1, 0);
            for (int i = 0; i < 6; i++) x.job(4, 1, i % 2, by, 0);
            T.due("fewest() by " + by, x.fewest(), 5 - by);
            x.plan(0012345);
            T.due("fewest() by " + by + ", of another plan", x.fewest(), 5 - by);
            x.lose(0, 1);
            T.due("fewest() by " + by + ", a day lost", x.fewest(), 6 - by);
        }
        // What is worth least to be late isn't what makes the fewest.
        PressDays x = Due.press(1, 0);
        x.job(0, 2, 0, 1, 99);
        x.job(0, 1, 0, 0, 1);
        x.job(0, 1, 0, 1, 1);
        T.due("fewest() of three", x.fewest(), 1);
        T.promise(17);
        T.due("best(0) of three", x.best(0), 99 - 10);
    }

    private static void soonestNumbers() {
        T.promise(19);
        for (int n = 0; n <= 6; n++) {
            PressDays x = Due.press(4, 0);
            for (int i = 0; i < n; i++) x.job(0, 1, 0, 60, 0);
            for (int[] b : Due.BAD_JOBS) {
                if (b[3] != 0 || b[4] != 0) continue;
                T.due("soonest(bad) of " + n, x.soonest(b[0], b[1], b[2]), -1);
            }
            int[] due = {0, 0, 2, 0};
            for (int i = 0; i < 4; i++) {
                int[] e = EDGE_JOBS[i];
                T.due("soonest(edge) of " + n, x.soonest(e[0], e[1], e[2]), n == 6 ? -2 : due[i]);
            }
            T.due("many(0)", x.many(0), n);
        }
        // FULL is told ahead of NONE.
        PressDays x = Due.press(1, 0);
        for (int i = 0; i < 6; i++) x.job(0, 2, 0, 0, 0);
        T.due("soonest of six late ones", x.soonest(0, 1, 0), -2);
        x.drop(0);
        T.due("soonest of five late ones", x.soonest(0, 1, 0), -3);
    }

    /** "the least DAY (from now on, to 60) .. so that there is an order in which none is LATE". */
    private static void soonestDays() {
        T.promise(19);
        for (int now : new int[] {0, 1, 59, 60}) {
            PressDays x = Due.press(1, 0);
            for (int day = 0; day < now; day++) x.goes();
            for (int slots = 1; slots <= 9; slots++) {
                int due = now + slots - 1;
                T.due("soonest of " + slots + " on day " + now, x.soonest(0, slots, 0), due <= 60 ? due : -3);
            }
        }
        PressDays x = Due.press(1, 0);
        x.job(0, 3, 0, 2, 0);
        T.due("soonest behind one that can't wait", x.soonest(0, 1, 0), 3);
        x.drop(0);
        x.job(0, 3, 0, 3, 0);
        T.due("soonest ahead of one that can wait a day", x.soonest(0, 1, 0), 0);
        T.due("soonest of two slots", x.soonest(0, 2, 0), 4);
        x.job(0, 1, 0, 4, 0);
        T.due("soonest between, of one slot", x.soonest(0, 1, 0), 0);
        x.drop(1);
        x.job(0, 1, 0, 3, 0);
        T.due("soonest behind both", x.soonest(0, 1, 0), 4);
        x.job(0, 1, 0, 0, 0);
        T.due("soonest where one is late", x.soonest(0, 1, 0), -3);
        x.drop(2);
        // One that is promised for a day that is past is late in any order.
        x.job(0, 1, 0, 5, 0);
        x.goes();
        x.job(0, 1, 0, 0, 0);
        T.due("soonest where one is past", x.soonest(0, 1, 0), -3);
        x = Due.press(1, 0);
        for (int day = 0; day <= 60; day++) x.lose(day, 1);
        T.due("soonest where no slot is left to day 60", x.soonest(0, 1, 0), -3);
        x.night(60, 9);
        T.due("soonest of nine in the last night", x.soonest(0, 9, 0), 60);
        x.night(60, 8);
        T.due("soonest of nine in eight", x.soonest(0, 9, 0), -3);
    }

    private static void gainNumbers() {
        T.promise(20);
        for (int n = 4; n <= 6; n++) {
            PressDays x = Due.press(4, 0);
            for (int i = 0; i < n; i++) x.job(0, 1, 0, 60, 0);
            for (int[] b : Due.BAD_JOBS) T.due("gain(bad) of " + n, x.gain(b[0], b[1], b[2], b[3], b[4]), NO);
            int[] due = {0, 0, -5, 0, 0, 99, 99};
            for (int i = 0; i < EDGE_JOBS.length; i++) {
                int[] e = EDGE_JOBS[i];
                T.due("gain(edge) of " + n, x.gain(e[0], e[1], e[2], e[3], e[4]), n == 6 ? NO : due[i]);
            }
            T.due("many(0)", x.many(0), n);
        }
    }

    /** "the most WORTH with it, less that without it". */
    private static void gainOfOne() {
        T.promise(20);
        PressDays x = Due.press(1, 0);
        T.due("gain of none, in time", x.gain(0, 1, 0, 0, 42), 42);
        T.due("gain of none, late", x.gain(0, 2, 0, 0, 42), -5);
        T.due("gain of none, late urgent", x.gain(4, 2, 0, 0, 42), 0);
        x.job(0, 1, 0, 0, 30);
        T.due("gain of a dearer one", x.gain(0, 1, 0, 0, 42), 42 - 5 - 30);
        T.due("gain of as dear a one", x.gain(0, 1, 0, 0, 30), -5);
        T.due("gain of a cheaper one", x.gain(0, 1, 0, 0, 29), -5);
        // The plan counts nothing, only the best orders do.
        x.job(0, 1, 0, 1, 7);
        x.plan(1);
        T.due("gain by best orders", x.gain(0, 1, 0, 2, 9), 9);
        T.due("worth() stays", x.worth(), 7 - 5);
    }

    /** "none is ahead of all, then by numbers"; "a half of its PRICE" is cut. */
    private static void acrossTies() {
        T.promise(21);
        for (int price : new int[] {0, 1}) {
            PressDays x = Due.press(1, 0);
            x.set(2, 0);
            for (int i = 0; i < 6; i++) x.job(0, 9, 0, 0, price);
            // All are late and worth 0; half of the price is 0, too.
            T.due("across(0) of all alike, price " + price, x.across(0), -9);
            T.due("across(1) of all alike, price " + price, x.across(1), 0);
        }
        PressDays x = Due.press(1, 0);
        x.set(2, 0);
        for (int i = 0; i < 6; i++) x.job(0, 9, 0, 0, i < 2 ? 1 : i < 4 ? 3 : 2);
        T.due("across(0) of several", x.across(0), 2);
        T.due("across(1) of several", x.across(1), 1);
        x.drop(2);
        x.drop(2);
        T.due("across(0) of the last", x.across(0), 2);
        x.drop(2);
        x.drop(2);
        T.due("across(0) of none that bring", x.across(0), -9);
        for (int what : Due.OUT_OF_2) T.due("across(" + what + ")", x.across(what), NO);
        // One that isn't late goes nowhere: half of its price is less than all of it, unless that is 0.
        x = Due.press(4, 0);
        x.job(0, 1, 0, 0, 0);
        T.due("across(0) of a job for nothing", x.across(0), -9);
        x.job(0, 1, 0, 0, 99);
        T.due("across(0) of two in time", x.across(0), -9);
        T.due("across(1) of two in time", x.across(1), 99);
        x = Due.press(1, 0);
        x.job(0, 2, 0, 0, 99);
        T.due("across(0) of a late one", x.across(0), 0);
        T.due("across(1) of a late one", x.across(1), 49);
        T.due("many(0) stays", x.many(0), 1);
    }

    /** "the least n (0 to 9)": of one job of k slots for today, k - 1 of them; of eleven, NONE. */
    private static void nightsFromNone() {
        T.promise(22);
        T.due("nights() of none", Due.press(1, 0).nights(), 0);
        for (int setting = 0; setting <= 3; setting++) {
            for (int slots = 1; slots <= 9; slots++) {
                PressDays x = Due.press(1, setting);
                x.job(0, slots, 1, slots - 1, 0);
                // Day by day one slot more: two a day, as long as they last; today's is the first.
                int need = setting + slots, due = -3;
                for (int n = 9; n >= 0; n--) {
                    int have = slots + Math.min(n, slots);
                    if (have >= need) due = n;
                }
                T.due("nights() of " + slots + " with setting " + setting, x.nights(), due);
            }
        }
    }

    /** "the next n DAYS from now on have one SLOT more each": today is the first of them, also a lost one. */
    private static void nightsFromNow() {
        T.promise(22);
        for (int more = 0; more <= 11; more++) {
            PressDays x = Due.press(1, 0);
            x.job(0, 9, 0, 12, 0);
            x.job(0, 4, 0, 12, 0);
            for (int i = 0; i < more; i++) x.lose(12 - i, 1);
            T.due("nights() with " + more + " days lost", x.nights(), more <= 9 ? more : -3);
        }
        PressDays x = Due.press(1, 0);
        x.job(0, 1, 0, 9, 0);
        for (int day = 0; day <= 9; day++) x.lose(day, 1);
        T.due("nights() where all are lost", x.nights(), 1);
        x.night(9, 1);
        T.due("nights() where a night is told", x.nights(), 0);
        x.night(9, 0);
        x.goes();
        T.due("nights() a day on", x.nights(), 1);
        // On day 60 only today counts.
        x = Due.press(1, 0);
        for (int day = 0; day < 60; day++) x.goes();
        x.job(0, 2, 0, 60, 0);
        T.due("nights() on day 60 of two slots", x.nights(), 1);
        x.job(0, 1, 0, 60, 0);
        T.due("nights() on day 60 of three slots", x.nights(), -3);
        x.drop(1);
        x.drop(0);
        x.job(0, 1, 0, 59, 0);
        T.due("nights() of a past day", x.nights(), -3);
    }

    /** "with ODDS by 4"; "without a common divisor, below above 0 (0 is 0 by 1)". */
    private static void sureOfOne() {
        int[][] due = {{1, 1}, {3, 4}, {1, 2}, {1, 4}, {0, 1}};
        for (int odds = 0; odds <= 4; odds++) {
            PressDays x = Due.press(1, 0);
            x.set(3, odds);
            for (int part = 0; part < 2; part++) {
                T.promise(23);
                T.due("sure(" + part + ") of none", x.sure(part), 1);
                T.promise(24);
                T.due("safest(" + (part + 1) + ") of none", x.safest(part + 1), 1);
            }
            x.job(0, 3, 0, 4, 9);
            for (int part = 0; part < 2; part++) {
                T.promise(23);
                T.due("sure(" + part + ") of odds " + odds, x.sure(part), due[odds][part]);
                T.promise(24);
                T.due("safest(" + (part + 1) + ") of odds " + odds, x.safest(part + 1), due[odds][part]);
            }
            // Twice its rest is just in time, or it is late at once.
            T.promise(23);
            x.drop(0);
            x.job(0, 3, 0, 5, 9);
            T.due("sure(0) of twice in time", x.sure(0), 1);
            T.due("sure(1) of twice in time", x.sure(1), 1);
            x.drop(0);
            x.job(0, 3, 0, 1, 9);
            T.due("sure(0) of late at once", x.sure(0), 0);
            T.due("sure(1) of late at once", x.sure(1), 1);
            for (int part : Due.OUT_OF_2) T.due("sure(" + part + ")", x.sure(part), -1);
        }
    }

    /** Each of six apart from each other: none may turn out long; or one may, or all. */
    private static void sureOfSix() {
        int[][] none = {{1, 1}, {729, 4096}, {1, 64}, {1, 4096}, {0, 1}};
        int[][] one = {{1, 1}, {729 * 3, 4096}, {7, 64}, {19, 4096}, {0, 1}};
        for (int odds = 0; odds <= 4; odds++) {
            PressDays x = Due.press(1, 0);
            x.set(3, odds);
            for (int i = 0; i < 6; i++) x.job(0, 1, 0, 5, 1);
            for (int part = 0; part < 2; part++) {
                T.promise(23);
                T.due("sure(" + part + ") of six, none long, odds " + odds, x.sure(part), none[odds][part]);
                T.promise(24);
                T.due("safest(" + (part + 1) + ") of six, none long, odds " + odds, x.safest(part + 1), none[odds][part]);
            }
            x.night(0, 1);
            T.promise(23);
            // Of six one may be long: 3 to the 6 and 6 times 3 to the 5, that is 3 times 3 to the 6.
            for (int part = 0; part < 2; part++) {
                T.due("sure(" + part + ") of six, one long, odds " + odds, x.sure(part), one[odds][part]);
            }
            x.night(0, 6);
            T.due("sure(0) of six, all long, odds " + odds, x.sure(0), 1);
            T.due("sure(1) of six, all long, odds " + odds, x.sure(1), 1);
            T.promise(24);
            T.due("safest(0) of six, all long, odds " + odds, x.safest(0), 0543210);
            T.due("safest(2) of six, all long, odds " + odds, x.safest(2), 1);
        }
    }

    /** "of several the first". */
    private static void safestTies() {
        T.promise(24);
        PressDays x = Due.press(1, 0);
        int[] digits = {0, 0, 010, 0210, 03210, 043210, 0543210};
        for (int n = 0; n <= 6; n++) {
            T.due("safest(0) of " + n + " alike", x.safest(0), digits[n]);
            for (int what : new int[] {-1, 3, MIN, MAX}) T.due("safest(" + what + ") of " + n, x.safest(what), -1);
            x.job(0, 1, 0, 60, 1);
        }
        // Only the last one is in a hurry: the first order in which it is first.
        x.drop(5);
        x.job(0, 1, 0, 1, 1);
        T.due("safest(0) of one in a hurry", x.safest(0), 0432105);
        T.due("safest(1) of one in a hurry", x.safest(1), 1);
        T.due("safest(2) of one in a hurry", x.safest(2), 1);
        // A job ahead of it may take one slot, but not two.
        x.lose(0, 1);
        x.drop(5);
        x.job(0, 1, 0, 3, 1);
        T.due("safest(0) of one in less hurry", x.safest(0), 0432105);
        x.set(3, 0);
        T.due("safest(0) of one in less hurry, odds 0", x.safest(0), 0432510);
        x.set(3, 4);
        T.due("safest(0) of one in less hurry, odds 4", x.safest(0), 0432105);
        x.lose(1, 1);
        T.due("safest(0) of one just in time", x.safest(0), 0432105);
        x.lose(2, 1);
        T.due("safest(0) where none is sure", x.safest(0), 0543210);
        T.due("safest(1) where none is sure", x.safest(1), 0);
        T.due("safest(2) where none is sure", x.safest(2), 1);
    }

    /** "its WORTH on average": of each kind, by each odds. */
    private static void meanOfOne() {
        T.promise(25);
        for (int kind = 0; kind < 6; kind++) {
            int[] late = {-7, -14, 4, -3, -14, -7};
            for (int odds = 0; odds <= 4; odds++) {
                PressDays x = Due.press(1, 0);
                x.set(2, 7);
                x.set(3, odds);
                T.due("mean(0) of none", x.mean(0), 0);
                T.due("mean(1) of none", x.mean(1), 1);
                x.job(kind, kind == 5 ? 6 : 3, 0, 3, 9);
                int above = 9 * (4 - odds) + late[kind] * odds, below = 4;
                while (below > 1 && above % 2 == 0) {
                    above /= 2;
                    below /= 2;
                }
                T.due("mean(0) of kind " + kind + ", odds " + odds, x.mean(0), above);
                T.due("mean(1) of kind " + kind + ", odds " + odds, x.mean(1), below);
                for (int part : Due.OUT_OF_2) T.due("mean(" + part + ")", x.mean(part), NO);
            }
        }
        // An urgent one that is one day late is worth nothing; "0 is 0 by 1".
        PressDays x = Due.press(1, 0);
        x.set(3, 4);
        x.job(4, 1, 0, 0, 9);
        T.due("mean(0) of one day late", x.mean(0), 0);
        T.due("mean(1) of one day late", x.mean(1), 1);
    }

    private static void meanOfSix() {
        T.promise(25);
        PressDays x = Due.press(1, 0);
        for (int i = 0; i < 6; i++) x.job(0, 1, 0, 60, 99);
        T.due("mean(0) of six in time", x.mean(0), 594);
        T.due("mean(1) of six in time", x.mean(1), 1);
        // The last is in time only if none is long: 729 of 4096, and 99 or -5.
        x.drop(5);
        x.job(0, 1, 0, 5, 99);
        T.due("mean(0) of five in time", x.mean(0), (495 * 4096 - 5 * 4096 + 104 * 729) / 8);
        T.due("mean(1) of five in time", x.mean(1), 512);
        x.plan(0432105);
        T.due("mean(0) by another plan", x.mean(0), 594);
    }
}
