/** A press with jobs promised for days: what ../shared/DOC.md promises, within ../shared/LANGUAGE.md. */
public final class PressDays {
    public static final int BAD = -1, FULL = -2, NONE = -3, STATE = -4, NO = -2147483648;

    private static final int NOBODY = -9, NO_JOB = -9;
    private static final int NOTHING = -11, OUTSIDE = -12, OTHER_SORT = -13, BELOW_ZERO = -14, PARTED_BY_ZERO = -15;
    private static final int FAULT_BASE = -100, JOBS_ARE_LEFT = 222;
    private static final int MOST_JOBS = 6, LAST_DAY = 60, LAST_DAY_ASKED = 99, MOST_NIGHTS = 9;
    private static final int JOB = 0, WEDDING = 1, POSTER = 2, TICKET = 3, URGENT = 4, HALF = 5;
    private static final int SLOTS = 0, SETTING = 1, FINE = 2, ODDS = 3, LAWS = 4;
    private static final int[] LAW_LEAST = {1, 0, 0, 0};
    private static final int[] LAW_MOST = {4, 3, 99, 4};

    private final Board now = new Board();
    private final Board keptBoard = new Board();
    private final Types types = new Types();
    private final Types keptTypes = new Types();
    private boolean isKept = false;
    private final Text text = new Text();
    private final Course course = new Course();
    private final Orders orders = new Orders(course);
    private final Chance chance = new Chance(course);
    private final Ahead calls = new Ahead(orders);
    private final Rows rows = new Rows(course);
    private final Jobs trial = new Jobs();
    private final Shelves shelves = new Shelves();
    private final Thing thing = new Thing();

    public PressDays() {
    }

    // ---- the board

    public int feed(long eight, int n) {
        if (!within(n, 1, 8)) return BAD;
        return text.take(eight, n);
    }

    public int board() {
        int fault = text.read();
        text.useUp();
        if (fault >= 0) return FAULT_BASE - fault;
        now.begin(text.jobs, text.law);
        rows.count = 0;
        return now.jobs.count;
    }

    public int job(int kind, int slots, int colour, int by, int price) {
        if (!isJob(kind, slots, colour, by, price)) return BAD;
        return now.come(kind, slots, colour, by, price);
    }

    public int jobOf(int job, int what) {
        if (!now.jobs.has(job)) return BAD;
        switch (what) {
            case 0: return now.jobs.kind[job];
            case 1: return now.jobs.rest[job];
            case 2: return now.jobs.colour[job];
            case 3: return now.jobs.by[job];
            case 4: return now.jobs.price[job];
            default: return BAD;
        }
    }

    public int drop(int job) {
        if (!now.jobs.has(job)) return BAD;
        now.leave(job);
        return now.jobs.count;
    }

    public int set(int law, int v) {
        if (!within(law, 0, LAWS - 1) || !within(v, LAW_LEAST[law], LAW_MOST[law])) return BAD;
        int was = now.law[law];
        now.law[law] = v;
        return was;
    }

    public int lose(int day, int n) {
        if (!within(day, 0, LAST_DAY) || !within(n, 0, 9)) return BAD;
        int was = now.lost[day];
        now.lost[day] = n;
        return was;
    }

    public int night(int day, int n) {
        if (!within(day, 0, LAST_DAY) || !within(n, 0, 9)) return BAD;
        int was = now.nightly[day];
        now.nightly[day] = n;
        return was;
    }

    public int slots(int day) {
        if (!within(day, 0, LAST_DAY_ASKED)) return BAD;
        return now.slotsOn(day);
    }

    public int plan(int digits) {
        return now.arrange(digits) ? 1 : BAD;
    }

    public int planOf(int i) {
        if (!now.jobs.has(i)) return BAD;
        return now.order[i];
    }

    public int press(int what) {
        switch (what) {
            case 0: return now.day;
            case 1: return now.colour;
            case 2: return now.left;
            default: return BAD;
        }
    }

    // ---- what it is worth

    public int ends(int job) {
        if (!now.jobs.has(job)) return BAD;
        followPlan();
        return course.endOf[job];
    }

    public int late() {
        followPlan();
        int bits = 0;
        for (int job = 0; job < now.jobs.count; job++) {
            if (course.endOf[job] > now.jobs.by[job]) bits |= 1 << job;
        }
        return bits;
    }

    public int worth() {
        followPlan();
        int sum = 0;
        for (int job = 0; job < now.jobs.count; job++) {
            sum += now.jobs.valueOf(job, course.endOf[job], course.fine);
        }
        return sum;
    }

    public int best(int what) {
        if (!within(what, 0, 1)) return NO;
        course.measure(now, 0);
        int most = orders.mostWorth(now.jobs, NO_JOB);
        return what == 0 ? most : digitsOf(orders.chosen, now.jobs.count);
    }

    public int fewest() {
        course.measure(now, 0);
        return orders.fewestLate(now.jobs);
    }

    public int soonest(int kind, int slots, int colour) {
        if (!isJob(kind, slots, colour, 0, 0)) return BAD;
        if (now.jobs.count >= MOST_JOBS) return FULL;
        course.measure(now, 0);
        trial.copy(now.jobs);
        trial.add(kind, slots, colour, LAST_DAY, 0);
        int day = orders.soonestEnd(trial);
        return day <= LAST_DAY ? day : NONE;
    }

    public int gain(int kind, int slots, int colour, int by, int price) {
        if (!isJob(kind, slots, colour, by, price) || now.jobs.count >= MOST_JOBS) return NO;
        course.measure(now, 0);
        int without = orders.mostWorth(now.jobs, NO_JOB);
        trial.copy(now.jobs);
        trial.add(kind, slots, colour, by, price);
        return orders.mostWorth(trial, NO_JOB) - without;
    }

    public int across(int what) {
        if (!within(what, 0, 1)) return NO;
        course.measure(now, 0);
        int who = NO_JOB;
        int most = orders.mostWorth(now.jobs, NO_JOB);
        for (int job = 0; job < now.jobs.count; job++) {
            int then = orders.mostWorth(now.jobs, job) + now.jobs.price[job] / 2;
            if (then > most) {
                most = then;
                who = job;
            }
        }
        return what == 0 ? who : most;
    }

    public int nights() {
        for (int n = 0; n <= MOST_NIGHTS; n++) {
            course.measure(now, n);
            if (orders.fewestLate(now.jobs) == 0) return n;
        }
        return NONE;
    }

    public int sure(int part) {
        if (!within(part, 0, 1)) return BAD;
        course.measure(now, 0);
        return partOf(chance.sureOf(now.jobs, now.order), 2 * now.jobs.count, part);
    }

    public int safest(int what) {
        if (!within(what, 0, 2)) return BAD;
        course.measure(now, 0);
        int above = chance.surest(now.jobs);
        if (what == 0) return digitsOf(chance.chosen, now.jobs.count);
        return partOf(above, 2 * now.jobs.count, what - 1);
    }

    public int mean(int part) {
        if (!within(part, 0, 1)) return NO;
        course.measure(now, 0);
        return partOf(chance.meanOf(now.jobs, now.order), 2 * now.jobs.count, part);
    }

    // ---- who may come

    public int type(int kind, int slots, int colour, int patience, int price, int odds) {
        if (!isJob(kind, slots, colour, 0, price)) return BAD;
        if (!within(patience, 0, 20) || !within(odds, 1, 4)) return BAD;
        if (types.oddsOfAll() + odds > 4) return STATE;
        return types.add(kind, slots, colour, patience, price, odds);
    }

    public int typeOf(int type, int what) {
        if (!within(type, 0, types.count - 1)) return BAD;
        switch (what) {
            case 0: return types.kind[type];
            case 1: return types.slots[type];
            case 2: return types.colour[type];
            case 3: return types.patience[type];
            case 4: return types.price[type];
            case 5: return types.odds[type];
            default: return BAD;
        }
    }

    public int ahead(int n, int part) {
        if (!within(n, 0, 3) || !within(part, 0, 1) || now.jobs.count + n > 5) return NO;
        course.measure(now, 0);
        trial.copy(now.jobs);
        return partOf(calls.mostOf(types, trial, now.day, n), 2 * n, part);
    }

    public int comes() {
        return types.next();
    }

    public int seed(int v) {
        int was = types.z;
        types.z = v;
        return was;
    }

    public int goes() {
        if (now.day >= LAST_DAY) return STATE;
        return now.workDay();
    }

    public int till() {
        return now.till;
    }

    // ---- rows

    public int prove() {
        course.measure(now, 0);
        orders.mostWorth(now.jobs, NO_JOB);
        rows.fill(now.jobs, orders.chosen);
        return rows.count;
    }

    public int row(int i, int what) {
        if (!rows.has(i, what)) return NO;
        return rows.cell[i * Rows.WIDTH + what];
    }

    public int alterRow(int i, int what, int v) {
        if (!rows.has(i, what)) return NO;
        int at = i * Rows.WIDTH + what;
        int was = rows.cell[at];
        rows.cell[at] = v;
        return was;
    }

    public int judge() {
        course.measure(now, 0);
        return rows.firstWrong(now.jobs);
    }

    // ---- the host

    public int sheet(int sheet, int sort, int n) {
        if (!Shelves.isPlace(sheet) || !within(sort, Shelves.MISSING, Shelves.LONGS)) return BAD;
        if (sort != Shelves.MISSING && n > Shelves.ITEMS) return BAD;
        if (sort != Shelves.MISSING && n < 0) return BELOW_ZERO;
        shelves.lay(sheet, sort, n);
        return 1;
    }

    public int put(int sheet, int i, int v) {
        if (!Shelves.isPlace(sheet)) return BAD;
        if (shelves.sheetSort[sheet] == Shelves.MISSING) return NOTHING;
        if (!within(i, 0, shelves.sheetSize[sheet] - 1)) return OUTSIDE;
        shelves.item[sheet * Shelves.ITEMS + i] = Shelves.narrowed(v, shelves.sheetSort[sheet]);
        return 1;
    }

    public int item(int sheet, int sort, int i) {
        if (!Shelves.isPlace(sheet) || !within(sort, 0, Shelves.LONGS)) return BAD;
        if (shelves.sheetSort[sheet] == Shelves.MISSING) return NOTHING;
        if (shelves.sheetSort[sheet] != sort) return OTHER_SORT;
        if (!within(i, 0, shelves.sheetSize[sheet] - 1)) return OUTSIDE;
        return shelves.item[sheet * Shelves.ITEMS + i];
    }

    public int shelf(int shelf, int what, int n) {
        if (!Shelves.isPlace(shelf)) return BAD;
        switch (what) {
            case 0:
                if (!now.jobs.has(n)) return BAD;
                shelves.holdJob(shelf, n);
                return 1;
            case 1:
                if (!Shelves.isPlace(n)) return BAD;
                shelves.holdRow(shelf, n);
                return 1;
            case 2:
                shelves.holdNothing(shelf);
                return 1;
            default:
                return BAD;
        }
    }

    public int taken(int shelf, int as) {
        boolean asRow = within(as, 10, 13);
        if (!Shelves.isPlace(shelf) || !asRow && !within(as, JOB, HALF)) return BAD;
        int job = shelves.jobOn(shelf);
        if (shelves.holdsRow(shelf)) {
            return asRow && shelves.shelfSort[shelf] == as - 10 ? shelves.shelfNumber[shelf] : OTHER_SORT;
        }
        if (!now.jobs.has(job)) return NOTHING;
        return !asRow && isUnder(now.jobs.kind[job], as) ? job : OTHER_SORT;
    }

    public int act(int shelf, int act, int x) {
        thing.forget();
        if (!Shelves.isPlace(shelf) || !within(act, 0, 3)) return 0;
        int job = shelves.jobOn(shelf);
        if (!now.jobs.has(job)) return 0;
        thing.become(now.jobs.kind[job], job, now.jobs.price[job]);
        return thing.perform(act, x);
    }

    public int trace(int i) {
        if (!within(i, 0, thing.ran - 1)) return NONE;
        return thing.body[i];
    }

    public int many(int what) {
        switch (what) {
            case 0: return now.jobs.count;
            case 1: return types.count;
            case 2: return rows.count;
            case 3: return text.count;
            case 4: return thing.ran;
            default: return BAD;
        }
    }

    // ---- kept

    public int keep() {
        keptBoard.copy(now);
        keptTypes.copy(types);
        isKept = true;
        return 1;
    }

    public int again() {
        if (!isKept) return NONE;
        now.copy(keptBoard);
        types.copy(keptTypes);
        return now.jobs.count;
    }

    private void followPlan() {
        course.measure(now, 0);
        course.follow(now.jobs, now.order);
    }

    private static boolean within(int v, int least, int most) {
        return v >= least && v <= most;
    }

    private static boolean isJob(int kind, int slots, int colour, int by, int price) {
        return within(kind, JOB, HALF) && within(slots, 1, 9) && within(colour, 0, 1)
            && within(by, 0, LAST_DAY) && within(price, 0, 99);
    }

    private static boolean isUnder(int kind, int as) {
        return kind == as || as == JOB || kind == TICKET && as == POSTER || kind == URGENT && as == WEDDING;
    }

    private static int digitsOf(int[] order, int n) {
        int digits = 0;
        for (int i = 0; i < n && i < order.length; i++) {
            digits |= order[i] << 3 * i;
        }
        return digits;
    }

    /** The number below the line is 2 to the twos, so that only halving can shorten the fraction. */
    private static int partOf(int above, int twos, int part) {
        int left = twos;
        int top = above;
        while (left > 0 && top % 2 == 0) {
            top /= 2;
            left--;
        }
        return part == 0 ? top : 1 << left;
    }

    /** JOBS by their numbers. */
    private static final class Jobs {
        int count = 0;
        final int[] kind = new int[MOST_JOBS];
        final int[] rest = new int[MOST_JOBS];
        final int[] colour = new int[MOST_JOBS];
        final int[] by = new int[MOST_JOBS];
        final int[] price = new int[MOST_JOBS];

        boolean has(int job) {
            return job >= 0 && job < count;
        }

        void add(int itsKind, int slots, int itsColour, int day, int itsPrice) {
            if (count >= MOST_JOBS) return;
            kind[count] = itsKind;
            rest[count] = itsKind == HALF ? (slots + 1) / 2 : slots;
            colour[count] = itsColour;
            by[count] = day;
            price[count] = itsPrice;
            count++;
        }

        void remove(int job) {
            if (!has(job)) return;
            for (int i = job; i + 1 < count; i++) {
                kind[i] = kind[i + 1];
                rest[i] = rest[i + 1];
                colour[i] = colour[i + 1];
                by[i] = by[i + 1];
                price[i] = price[i + 1];
            }
            count--;
        }

        void copy(Jobs from) {
            count = from.count;
            for (int i = 0; i < from.count; i++) {
                kind[i] = from.kind[i];
                rest[i] = from.rest[i];
                colour[i] = from.colour[i];
                by[i] = from.by[i];
                price[i] = from.price[i];
            }
        }

        /** WORTH of a JOB that ENDS on a DAY. */
        int valueOf(int job, int end, int fine) {
            if (end <= by[job]) return price[job];
            switch (kind[job]) {
                case WEDDING: return -2 * fine;
                case POSTER: return price[job] / 2;
                case TICKET: return price[job] / 2 - fine;
                case URGENT: return end == by[job] + 1 ? 0 : -2 * fine;
                default: return -fine;
            }
        }
    }

    /** THE BOARD with THE PLAN, the press and TILL. */
    private static final class Board {
        final Jobs jobs = new Jobs();
        final int[] law = {2, 1, 5, 1};
        final int[] lost = new int[LAST_DAY + 1];
        final int[] nightly = new int[LAST_DAY + 1];
        final int[] order = new int[MOST_JOBS];
        int day = 0;
        int colour = 0;
        int left = 0;
        int till = 0;

        int slotsOn(int aDay) {
            if (aDay < 0 || aDay > LAST_DAY) return law[SLOTS];
            return Math.max(0, law[SLOTS] - lost[aDay]) + nightly[aDay];
        }

        /** A LAW below 0 is one that isn't told. */
        void begin(Jobs told, int[] toldLaw) {
            jobs.copy(told);
            for (int i = 0; i < MOST_JOBS; i++) {
                order[i] = i;
            }
            for (int i = 0; i < LAWS && i < toldLaw.length; i++) {
                if (toldLaw[i] >= 0) law[i] = toldLaw[i];
            }
            for (int i = 0; i <= LAST_DAY; i++) {
                lost[i] = 0;
                nightly[i] = 0;
            }
            day = 0;
            colour = 0;
            left = 0;
            till = 0;
        }

        int come(int kind, int slots, int itsColour, int by, int price) {
            if (jobs.count >= MOST_JOBS) return FULL;
            order[jobs.count] = jobs.count;
            jobs.add(kind, slots, itsColour, by, price);
            return jobs.count - 1;
        }

        void leave(int job) {
            int kept = 0;
            for (int i = 0; i < jobs.count; i++) {
                int other = order[i];
                if (other == job) continue;
                order[kept] = other > job ? other - 1 : other;
                kept++;
            }
            jobs.remove(job);
        }

        boolean arrange(int digits) {
            if (digits < 0 || digits >> 3 * jobs.count != 0) return false;
            int seen = 0;
            for (int i = 0; i < jobs.count; i++) {
                seen |= 1 << (digits >> 3 * i & 7);
            }
            if (seen != (1 << jobs.count) - 1) return false;
            for (int i = 0; i < jobs.count; i++) {
                order[i] = digits >> 3 * i & 7;
            }
            return true;
        }

        int workDay() {
            int ended = 0;
            int slots = slotsOn(day);
            for (int i = 0; i < slots && jobs.count > 0; i++) {
                if (workSlot(order[0])) ended++;
            }
            day++;
            return ended;
        }

        private boolean workSlot(int job) {
            if (!jobs.has(job)) return false;
            if (jobs.colour[job] != colour) {
                colour = jobs.colour[job];
                left = law[SETTING];
            }
            if (left > 0) {
                left--;
                return false;
            }
            jobs.rest[job]--;
            if (jobs.rest[job] > 0) return false;
            till += jobs.valueOf(job, day, law[FINE]);
            leave(job);
            return true;
        }

        void copy(Board from) {
            jobs.copy(from.jobs);
            System.arraycopy(from.law, 0, law, 0, LAWS);
            System.arraycopy(from.lost, 0, lost, 0, LAST_DAY + 1);
            System.arraycopy(from.nightly, 0, nightly, 0, LAST_DAY + 1);
            System.arraycopy(from.order, 0, order, 0, MOST_JOBS);
            day = from.day;
            colour = from.colour;
            left = from.left;
            till = from.till;
        }
    }

    /** THE TAPE and the reading of its TEXT: until all is read right, THE BOARD doesn't change. */
    private static final class Text {
        private static final int MOST_BYTES = 200, MOST_DIGITS = 2;
        private static final int END = 0, NAME = 1, NUMBER = 2, OTHER = 3;

        private final byte[] tape = new byte[MOST_BYTES];
        int count = 0;
        final Jobs jobs = new Jobs();
        final int[] law = {-1, -1, -1, -1};
        private int sort = END;
        private int start = 0;
        private int behind = 0;
        private int value = 0;

        int take(long eight, int n) {
            if (count + n > MOST_BYTES) return FULL;
            for (int i = 0; i < n; i++) {
                tape[count] = (byte) (eight >>> 8 * i);
                count++;
            }
            return count;
        }

        void useUp() {
            count = 0;
        }

        /** The FAULT, or -1: where a reading stops short, the sign at start is the one at fault. */
        int read() {
            jobs.count = 0;
            for (int i = 0; i < LAWS; i++) {
                law[i] = -1;
            }
            behind = 0;
            next();
            for (int i = 0; i < MOST_BYTES && sort != END; i++) {
                int which = lawNamed();
                boolean right = which >= 0 ? readLaw(which) : readJob();
                if (!right) return start;
            }
            return -1;
        }

        private boolean readLaw(int which) {
            next();
            if (!passNumber(LAW_LEAST[which], LAW_MOST[which])) return false;
            int v = value;
            if (!passStop()) return false;
            law[which] = v;
            return true;
        }

        private boolean readJob() {
            if (jobs.count >= MOST_JOBS) return false;
            int kind = JOB;
            if (sort == NAME) {
                kind = kindNamed();
                if (kind < 0) return false;
                next();
            }
            if (!passNumber(1, 9)) return false;
            int slots = value;
            int colour = passName("black") ? 1 : 0;
            if (!passName("by") || !passNumber(0, LAST_DAY)) return false;
            int by = value;
            if (!passName("for") || !passNumber(0, 99)) return false;
            int price = value;
            if (!passStop()) return false;
            jobs.add(kind, slots, colour, by, price);
            return true;
        }

        private int lawNamed() {
            if (isNamed("slots")) return SLOTS;
            if (isNamed("setting")) return SETTING;
            if (isNamed("fine")) return FINE;
            return -1;
        }

        private int kindNamed() {
            if (isNamed("job")) return JOB;
            if (isNamed("wedding")) return WEDDING;
            if (isNamed("poster")) return POSTER;
            if (isNamed("ticket")) return TICKET;
            if (isNamed("urgent")) return URGENT;
            if (isNamed("half")) return HALF;
            return -1;
        }

        private boolean isNamed(String name) {
            if (sort != NAME || behind - start != name.length()) return false;
            for (int i = 0; i < name.length(); i++) {
                if (tape[start + i] != name.charAt(i)) return false;
            }
            return true;
        }

        private boolean passName(String name) {
            if (!isNamed(name)) return false;
            next();
            return true;
        }

        private boolean passNumber(int least, int most) {
            if (sort != NUMBER || behind - start > MOST_DIGITS) return false;
            int v = 0;
            for (int i = start; i < behind; i++) {
                v = v * 10 + tape[i] - '0';
            }
            if (!within(v, least, most)) return false;
            value = v;
            next();
            return true;
        }

        private boolean passStop() {
            if (sort != OTHER || tape[start] != ';') return false;
            next();
            return true;
        }

        private void next() {
            start = behind;
            while (start < count && tape[start] == ' ') {
                start++;
            }
            sort = sortAt(start);
            behind = sort == END ? start : start + 1;
            while ((sort == NAME || sort == NUMBER) && behind < count && sortAt(behind) == sort) {
                behind++;
            }
        }

        private int sortAt(int at) {
            if (at < 0 || at >= count) return END;
            if (tape[at] >= 'a' && tape[at] <= 'z') return NAME;
            return tape[at] >= '0' && tape[at] <= '9' ? NUMBER : OTHER;
        }
    }

    /** How work goes on from the DAY now: on which DAY each SLOT lies, and what setting takes. */
    private static final class Course {
        /** Six JOBS take 6 * (3 + 18) SLOTS at most, each of them twice as long and set anew. */
        private static final int MOST_USED = MOST_JOBS * 21;
        /** A DAY behind 60 has a SLOT at least. */
        private static final int LAST_NEEDED = LAST_DAY + MOST_USED;

        private final int[] dayOf = new int[MOST_USED + 1];
        final int[] endOf = new int[MOST_JOBS];
        int fine = 0;
        int odds = 0;
        private int setting = 0;
        private int colour = 0;
        private int left = 0;

        /** The next DAYS, as many as longer tells, have one SLOT more each. */
        void measure(Board board, int longer) {
            fine = board.law[FINE];
            odds = board.law[ODDS];
            setting = board.law[SETTING];
            colour = board.colour;
            left = board.left;
            int used = 0;
            for (int day = board.day; day <= LAST_NEEDED && used < MOST_USED; day++) {
                int slots = board.slotsOn(day) + (day - board.day < longer ? 1 : 0);
                for (int i = 0; i < slots && used < MOST_USED; i++) {
                    used++;
                    dayOf[used] = day;
                }
            }
        }

        /** SLOTS used when a JOB ENDS that is next behind one of the colour was (nothing used: the press as it is). */
        int usedBehind(int used, int was, Jobs jobs, int job) {
            int itsColour = jobs.colour[job];
            int sets = itsColour == was ? 0 : setting;
            if (used == 0) sets = itsColour == colour ? left : setting;
            return used + sets + jobs.rest[job];
        }

        int dayAt(int used) {
            return dayOf[Math.max(0, Math.min(used, MOST_USED))];
        }

        void follow(Jobs jobs, int[] order) {
            int used = 0;
            int was = 0;
            for (int i = 0; i < jobs.count; i++) {
                int job = order[i];
                used = usedBehind(used, was, jobs, job);
                was = jobs.colour[job];
                endOf[job] = dayAt(used);
            }
        }
    }

    /** Looks through all orders for the first one that loses least. */
    private static final class Orders {
        private static final int PRICES = 0, LATE_ONES = 1, END_OF_LAST = 2;
        /** More than any order can lose. */
        private static final int NEVER = 1000000;

        private final Course course;
        private final int[] order = new int[MOST_JOBS];
        final int[] chosen = new int[MOST_JOBS];
        private int aim = PRICES;
        private int many = 0;
        private int least = NEVER;

        Orders(Course course) {
            this.course = course;
        }

        int mostWorth(Jobs all, int without) {
            int prices = 0;
            for (int job = 0; job < all.count; job++) {
                if (job != without) prices += all.price[job];
            }
            return prices - leastLost(PRICES, all, without);
        }

        int fewestLate(Jobs all) {
            return leastLost(LATE_ONES, all, NO_JOB);
        }

        /** The DAY on which the last JOB by number ENDS at best while no other one is LATE. */
        int soonestEnd(Jobs all) {
            return leastLost(END_OF_LAST, all, NO_JOB);
        }

        private int leastLost(int what, Jobs all, int without) {
            aim = what;
            least = NEVER;
            boolean isOut = all.has(without);
            many = isOut ? all.count - 1 : all.count;
            walk(all, 0, 0, 0, isOut ? 1 << without : 0, 0);
            return least;
        }

        private void walk(Jobs jobs, int depth, int used, int was, int gone, int lost) {
            // A longer order never loses less, and of equal ones the first counts.
            if (lost >= least) return;
            if (depth >= many) {
                least = lost;
                System.arraycopy(order, 0, chosen, 0, MOST_JOBS);
                return;
            }
            for (int job = 0; job < jobs.count; job++) {
                if ((gone >> job & 1) != 0) continue;
                int then = course.usedBehind(used, was, jobs, job);
                order[depth] = job;
                int loss = lossOf(jobs, job, course.dayAt(then));
                walk(jobs, depth + 1, then, jobs.colour[job], gone | 1 << job, lost + loss);
            }
        }

        private int lossOf(Jobs jobs, int job, int end) {
            boolean isLate = end > jobs.by[job];
            switch (aim) {
                case PRICES: return jobs.price[job] - jobs.valueOf(job, end, course.fine);
                case LATE_ONES: return isLate ? 1 : 0;
                default:
                    if (job == jobs.count - 1) return end;
                    return isLate ? NEVER : 0;
            }
        }
    }

    /** What becomes of orders when JOBS turn out twice as long. */
    private static final class Chance {
        private static final int OUTCOMES = 1 << MOST_JOBS;

        private final Course course;
        /** Of outcomes behind n JOBS the first one lies at 2 to the n. */
        private final int[] used = new int[2 * OUTCOMES];
        private final int[] weight = new int[2 * OUTCOMES];
        private final int[] size = new int[MOST_JOBS + 1];
        private final int[] order = new int[MOST_JOBS];
        final int[] chosen = new int[MOST_JOBS];
        private boolean lateToo = false;
        private int earned = 0;
        private int most = 0;

        Chance(Course course) {
            this.course = course;
        }

        /** Of 4 to the number of JOBS. */
        int sureOf(Jobs jobs, int[] plan) {
            begin(false);
            int sum = 1;
            for (int i = 0; i < jobs.count; i++) {
                sum = spread(jobs, i, i == 0 ? 0 : jobs.colour[plan[i - 1]], plan[i]);
            }
            return sum;
        }

        /** Of 4 to the number of JOBS. */
        int meanOf(Jobs jobs, int[] plan) {
            begin(true);
            int sum = 0;
            for (int i = 0; i < jobs.count; i++) {
                spread(jobs, i, i == 0 ? 0 : jobs.colour[plan[i - 1]], plan[i]);
                sum = sum * 4 + earned;
            }
            return sum;
        }

        /** Of 4 to the number of JOBS. */
        int surest(Jobs jobs) {
            begin(false);
            most = -1;
            walk(jobs, 0, 0, 0, 1);
            return most;
        }

        private void begin(boolean keepsLate) {
            lateToo = keepsLate;
            used[1] = 0;
            weight[1] = 1;
            size[0] = 1;
        }

        private void walk(Jobs jobs, int depth, int was, int gone, int sum) {
            // What follows can only take odds away, and of equal ones the first counts.
            if (sum << 2 * (jobs.count - depth) <= most) return;
            if (depth >= jobs.count) {
                most = sum;
                System.arraycopy(order, 0, chosen, 0, MOST_JOBS);
                return;
            }
            for (int job = 0; job < jobs.count; job++) {
                if ((gone >> job & 1) != 0) continue;
                order[depth] = job;
                walk(jobs, depth + 1, jobs.colour[job], gone | 1 << job, spread(jobs, depth, was, job));
            }
        }

        /** Parts each outcome behind some JOBS in two by the next one: their weights together. */
        private int spread(Jobs jobs, int level, int was, int job) {
            int from = 1 << level;
            int to = from * 2;
            int kept = 0;
            int sum = 0;
            earned = 0;
            for (int i = 0; i < size[level]; i++) {
                int then = course.usedBehind(used[from + i], was, jobs, job);
                for (int twice = 0; twice < 2; twice++) {
                    int itsWeight = weight[from + i] * (twice == 0 ? 4 - course.odds : course.odds);
                    int end = course.dayAt(then);
                    if (itsWeight > 0 && (lateToo || end <= jobs.by[job])) {
                        used[to + kept] = then;
                        weight[to + kept] = itsWeight;
                        kept++;
                        sum += itsWeight;
                        earned += itsWeight * jobs.valueOf(job, end, course.fine);
                    }
                    then += jobs.rest[job];
                }
            }
            size[level + 1] = kept;
            return sum;
        }
    }

    /** TYPES of JOBS that may come, and z. */
    private static final class Types {
        static final int MOST = 3;

        int count = 0;
        int z = 1;
        final int[] kind = new int[MOST];
        final int[] slots = new int[MOST];
        final int[] colour = new int[MOST];
        final int[] patience = new int[MOST];
        final int[] price = new int[MOST];
        final int[] odds = new int[MOST];

        int oddsOfAll() {
            int sum = 0;
            for (int i = 0; i < count; i++) {
                sum += odds[i];
            }
            return sum;
        }

        int add(int itsKind, int itsSlots, int itsColour, int itsPatience, int itsPrice, int itsOdds) {
            if (count >= MOST) return FULL;
            kind[count] = itsKind;
            slots[count] = itsSlots;
            colour[count] = itsColour;
            patience[count] = itsPatience;
            price[count] = itsPrice;
            odds[count] = itsOdds;
            count++;
            return count - 1;
        }

        int next() {
            z = z * 1103515245 + 12345;
            int drawn = (z >>> 16) % 4;
            int sum = 0;
            for (int i = 0; i < count; i++) {
                sum += odds[i];
                if (drawn < sum) return i;
            }
            return NOBODY;
        }

        void copy(Types from) {
            count = from.count;
            z = from.z;
            for (int i = 0; i < from.count; i++) {
                kind[i] = from.kind[i];
                slots[i] = from.slots[i];
                colour[i] = from.colour[i];
                patience[i] = from.patience[i];
                price[i] = from.price[i];
                odds[i] = from.odds[i];
            }
        }
    }

    /** CALLS AHEAD: whom to take. */
    private static final class Ahead {
        private final Orders orders;

        Ahead(Orders orders) {
            this.orders = orders;
        }

        /** The most WORTH on average behind n calls, times 4 to the n. */
        int mostOf(Types types, Jobs jobs, int day, int n) {
            if (n <= 0) return orders.mostWorth(jobs, NO_JOB);
            int without = mostOf(types, jobs, day, n - 1);
            int sum = without * (4 - types.oddsOfAll());
            for (int i = 0; i < types.count; i++) {
                jobs.add(types.kind[i], types.slots[i], types.colour[i], day + types.patience[i], types.price[i]);
                int with = mostOf(types, jobs, day, n - 1);
                jobs.remove(jobs.count - 1);
                sum += types.odds[i] * Math.max(with, without);
            }
            return sum;
        }
    }

    /** ROWS, and THE READER who takes them as an order. */
    private static final class Rows {
        static final int WIDTH = 3;

        private final Course course;
        final int[] cell = new int[MOST_JOBS * WIDTH];
        int count = 0;

        Rows(Course course) {
            this.course = course;
        }

        boolean has(int i, int what) {
            return within(i, 0, count - 1) && within(what, 0, WIDTH - 1);
        }

        void fill(Jobs jobs, int[] order) {
            course.follow(jobs, order);
            count = jobs.count;
            for (int i = 0; i < jobs.count; i++) {
                int job = order[i];
                cell[i * WIDTH] = job;
                cell[i * WIDTH + 1] = course.endOf[job];
                cell[i * WIDTH + 2] = jobs.valueOf(job, course.endOf[job], course.fine);
            }
        }

        int firstWrong(Jobs jobs) {
            int used = 0;
            int was = 0;
            int told = 0;
            for (int i = 0; i < count; i++) {
                int job = cell[i * WIDTH];
                if (!jobs.has(job) || (told >> job & 1) != 0) return i + 1;
                told |= 1 << job;
                used = course.usedBehind(used, was, jobs, job);
                was = jobs.colour[job];
                int end = course.dayAt(used);
                if (cell[i * WIDTH + 1] != end) return i + 1;
                if (cell[i * WIDTH + 2] != jobs.valueOf(job, end, course.fine)) return i + 1;
            }
            return count < jobs.count ? JOBS_ARE_LEFT : 0;
        }
    }

    /** SHEETS and SHELVES. */
    private static final class Shelves {
        static final int PLACES = 4, ITEMS = 40;
        static final int MISSING = -1, BYTES = 0, SHORTS = 1, LONGS = 3;
        private static final int HOLDS_NOTHING = 0, HOLDS_JOB = 1, HOLDS_ROW = 2;

        final int[] sheetSort = {MISSING, MISSING, MISSING, MISSING};
        final int[] sheetSize = new int[PLACES];
        /** Items of longs too: they are put as ints, and their lowest 32 bits are all that is asked. */
        final int[] item = new int[PLACES * ITEMS];
        private final int[] holds = new int[PLACES];
        /** Of a row its sort and how many items: the row itself stays as it was when its SHEET becomes another. */
        final int[] shelfSort = new int[PLACES];
        final int[] shelfNumber = new int[PLACES];

        static boolean isPlace(int i) {
            return within(i, 0, PLACES - 1);
        }

        static int narrowed(int v, int sort) {
            if (sort == BYTES) return (byte) v;
            return sort == SHORTS ? (short) v : v;
        }

        void lay(int sheet, int sort, int n) {
            sheetSort[sheet] = sort;
            sheetSize[sheet] = sort == MISSING ? 0 : n;
            for (int i = 0; i < ITEMS; i++) {
                item[sheet * ITEMS + i] = 0;
            }
        }

        void holdNothing(int shelf) {
            holds[shelf] = HOLDS_NOTHING;
        }

        void holdJob(int shelf, int job) {
            holds[shelf] = HOLDS_JOB;
            shelfNumber[shelf] = job;
        }

        void holdRow(int shelf, int sheet) {
            holds[shelf] = sheetSort[sheet] == MISSING ? HOLDS_NOTHING : HOLDS_ROW;
            shelfSort[shelf] = sheetSort[sheet];
            shelfNumber[shelf] = sheetSize[sheet];
        }

        boolean holdsRow(int shelf) {
            return holds[shelf] == HOLDS_ROW;
        }

        int jobOn(int shelf) {
            return holds[shelf] == HOLDS_JOB ? shelfNumber[shelf] : NO_JOB;
        }
    }

    /** A JOB as a thing of its KIND. Each act runs the bodies of the KIND first, then those above it. */
    private static final class Thing {
        private static final int KEPT = 30;

        private int kind = JOB;
        private int n = 0;
        private int a = 0;
        private boolean isParted = false;
        final int[] body = new int[KEPT];
        int ran = 0;

        void forget() {
            ran = 0;
        }

        void become(int itsKind, int number, int price) {
            kind = itsKind;
            n = number;
            a = price;
            isParted = false;
        }

        int perform(int act, int x) {
            int answer = 0;
            switch (act) {
                case 0: answer = prints(x); break;
                case 1: answer = sets(x); break;
                case 2: answer = shares(x); break;
                default: answer = tells(x); break;
            }
            return isParted ? PARTED_BY_ZERO : answer;
        }

        private void runs(int number) {
            if (ran >= KEPT) return;
            body[ran] = number;
            ran++;
        }

        private boolean is(int as) {
            return isUnder(kind, as);
        }

        private int prints(int x) {
            if (is(TICKET)) runs(41);
            if (is(POSTER)) runs(30);
            if (is(URGENT)) runs(50);
            runs(10);
            int v = x + n;
            if (is(POSTER)) v = v * 3;
            if (is(TICKET)) v = v - n;
            return is(URGENT) ? 0 - v : v;
        }

        private int sets(int x) {
            if (is(URGENT)) runs(51);
            if (is(WEDDING)) runs(20);
            runs(11);
            int v = prints(x) * 2;
            if (is(WEDDING)) v = v - a;
            return is(URGENT) ? v + prints(n) : v;
        }

        private int shares(int x) {
            if (is(TICKET)) runs(40);
            if (is(HALF)) runs(61);
            runs(12);
            if (a == n) {
                isParted = true;
                return 0;
            }
            int v = (is(TICKET) ? x + 2 : x) / (a - n);
            if (is(TICKET)) v = v ^ 1;
            return is(HALF) ? v + prints(a) : v;
        }

        private int tells(int x) {
            if (is(POSTER)) runs(31);
            if (is(HALF)) runs(60);
            runs(13);
            int v = sets(x) ^ a;
            if (is(POSTER)) v = v + shares(n);
            return is(HALF) ? v * 2 : v;
        }
    }
}
