import java.math.BigInteger;
import java.util.ArrayList;
import java.util.Arrays;
import java.util.List;
import java.util.Map;
import java.util.TreeMap;
import java.util.function.ToLongFunction;
import java.util.regex.Matcher;
import java.util.regex.Pattern;

/** The document told again, word by word and slowly, to be compared with PressDays. */
final class SlowPress {
    static final int BAD = -1, FULL = -2, NONE = -3, STATE = -4, NO = Integer.MIN_VALUE;
    static final String[] KINDS = {"job", "wedding", "poster", "ticket", "urgent", "half"};

    /** A JOB that is told; how much of it is left is the state's. */
    static final class Order {
        int kind, rest, colour, by, price;

        Order(int kind, int slots, int colour, int by, int price) {
            this.kind = kind;
            this.rest = kind == 5 ? (slots + 1) / 2 : slots;
            this.colour = colour;
            this.by = by;
            this.price = price;
        }

        Order twin() {
            Order o = new Order(kind, rest, colour, by, price);
            o.rest = rest;
            return o;
        }

        int worthAt(int day, int fine) {
            int late = day - by;
            if (late <= 0) return price;
            return switch (KINDS[kind]) {
                case "job", "half" -> 0 - fine;
                case "wedding" -> (0 - fine) * 2;
                case "urgent" -> late == 1 ? 0 : (0 - fine) * 2;
                case "poster" -> price / 2;
                default -> price / 2 - fine;
            };
        }
    }

    static final class World {
        List<Order> jobs = new ArrayList<>();
        List<Order> plan = new ArrayList<>();
        int[] law = {2, 1, 5, 1};
        Map<Integer, Integer> lost = new TreeMap<>(), nights = new TreeMap<>();
        int day, colour, setting, till, z = 1;
        List<int[]> types = new ArrayList<>();

        World twin() {
            World w = new World();
            for (Order o : jobs) w.jobs.add(o.twin());
            for (Order o : plan) w.plan.add(w.jobs.get(jobs.indexOf(o)));
            w.law = law.clone();
            w.lost.putAll(lost);
            w.nights.putAll(nights);
            w.day = day;
            w.colour = colour;
            w.setting = setting;
            w.till = till;
            w.z = z;
            for (int[] t : types) w.types.add(t.clone());
            return w;
        }

        int slots(int d) {
            if (d > 60) return law[0];
            return Math.max(0, law[0] - lost.getOrDefault(d, 0)) + nights.getOrDefault(d, 0);
        }
    }

    World w = new World();
    World kept;
    List<Integer> tape = new ArrayList<>();
    List<int[]> rows = new ArrayList<>();
    Object[] sheets = new Object[4];
    Object[] shelves = new Object[4];
    List<Integer> trace = new ArrayList<>();

    static boolean in(int v, int lo, int hi) {
        return lo <= v && v <= hi;
    }

    // ---- the board

    int feed(long eight, int n) {
        if (n < 1 || n > 8) return BAD;
        if (tape.size() + n > 200) return FULL;
        for (int i = 0; i < n; i++) tape.add((int) (eight >> 8 * i) & 255);
        return tape.size();
    }

    static final class Fault extends Exception {
        private static final long serialVersionUID = 1;
        final int at;

        Fault(int at) {
            this.at = at;
        }
    }

    private String left;
    private int at;

    private String peek() {
        Matcher m = Pattern.compile("( *)([a-z]+|[0-9]+|.|)", Pattern.DOTALL).matcher(left);
        m.lookingAt();
        at += m.group(1).length();
        left = left.substring(m.group(1).length());
        return m.group(2);
    }

    private void pass(String sign) {
        left = left.substring(sign.length());
        at += sign.length();
    }

    private void want(String sign) throws Fault {
        if (!peek().equals(sign)) throw new Fault(at);
        pass(sign);
    }

    private int number(int lo, int hi) throws Fault {
        String sign = peek();
        if (!sign.matches("[0-9]{1,2}")) throw new Fault(at);
        int v = Integer.parseInt(sign);
        if (!in(v, lo, hi)) throw new Fault(at);
        pass(sign);
        return v;
    }

    int board() {
        StringBuilder b = new StringBuilder();
        for (int c : tape) b.append((char) c);
        tape.clear();
        left = b.toString();
        at = 0;
        World next = new World();
        next.law = w.law.clone();
        next.z = w.z;
        next.types = w.types;
        try {
            while (!peek().isEmpty()) {
                String sign = peek();
                if (sign.equals("slots") || sign.equals("fine") || sign.equals("setting")) {
                    pass(sign);
                    int v = sign.equals("slots") ? number(1, 4) : sign.equals("fine") ? number(0, 99) : number(0, 3);
                    want(";");
                    next.law[sign.equals("slots") ? 0 : sign.equals("fine") ? 2 : 1] = v;
                    continue;
                }
                if (next.jobs.size() == 6) throw new Fault(at);
                int kind = Arrays.asList(KINDS).indexOf(sign);
                if (kind >= 0) pass(sign);
                int slots = number(1, 9);
                boolean black = peek().equals("black");
                if (black) pass("black");
                want("by");
                int by = number(0, 60);
                want("for");
                int price = number(0, 99);
                want(";");
                next.jobs.add(new Order(Math.max(kind, 0), slots, black ? 1 : 0, by, price));
            }
        } catch (Fault f) {
            return -100 - f.at;
        }
        next.plan.addAll(next.jobs);
        w = next;
        rows.clear();
        return w.jobs.size();
    }

    static boolean asTold(int kind, int slots, int colour, int by, int price) {
        return in(kind, 0, 5) && in(slots, 1, 9) && in(colour, 0, 1) && in(by, 0, 60) && in(price, 0, 99);
    }

    int job(int kind, int slots, int colour, int by, int price) {
        if (!asTold(kind, slots, colour, by, price)) return BAD;
        if (w.jobs.size() == 6) return FULL;
        Order o = new Order(kind, slots, colour, by, price);
        w.jobs.add(o);
        w.plan.add(o);
        return w.jobs.indexOf(o);
    }

    Order jobAt(int i) {
        return in(i, 0, w.jobs.size() - 1) ? w.jobs.get(i) : null;
    }

    int jobOf(int job, int what) {
        Order o = jobAt(job);
        if (o == null || !in(what, 0, 4)) return BAD;
        return new int[] {o.kind, o.rest, o.colour, o.by, o.price}[what];
    }

    int drop(int job) {
        Order o = jobAt(job);
        if (o == null) return BAD;
        w.jobs.remove(o);
        w.plan.remove(o);
        return w.jobs.size();
    }

    int set(int law, int v) {
        if (!in(law, 0, 3)) return BAD;
        boolean right = law == 0 ? in(v, 1, 4) : law == 1 ? in(v, 0, 3) : law == 2 ? in(v, 0, 99) : in(v, 0, 4);
        if (!right) return BAD;
        int was = w.law[law];
        w.law[law] = v;
        return was;
    }

    int lose(int day, int n) {
        if (!in(day, 0, 60) || !in(n, 0, 9)) return BAD;
        Integer was = w.lost.put(day, n);
        return was == null ? 0 : was;
    }

    int night(int day, int n) {
        if (!in(day, 0, 60) || !in(n, 0, 9)) return BAD;
        Integer was = w.nights.put(day, n);
        return was == null ? 0 : was;
    }

    int slots(int day) {
        return in(day, 0, 99) ? w.slots(day) : BAD;
    }

    int plan(int digits) {
        List<Order> order = new ArrayList<>();
        for (List<Integer> p : permutations(w.jobs.size())) {
            int told = digits(p);
            if (told == digits) {
                for (int i : p) order.add(w.jobs.get(i));
                w.plan = order;
                return 1;
            }
        }
        return BAD;
    }

    int planOf(int i) {
        return jobAt(i) == null ? BAD : w.jobs.indexOf(w.plan.get(i));
    }

    int press(int what) {
        return what == 0 ? w.day : what == 1 ? w.colour : what == 2 ? w.setting : BAD;
    }

    // ---- what it is worth

    static List<List<Integer>> permutations(int n) {
        List<List<Integer>> all = new ArrayList<>();
        permute(n, new ArrayList<>(), all);
        return all;
    }

    private static void permute(int n, List<Integer> head, List<List<Integer>> all) {
        if (head.size() == n) {
            all.add(new ArrayList<>(head));
            return;
        }
        for (int i = 0; i < n; i++) {
            if (head.contains(i)) continue;
            head.add(i);
            permute(n, head, all);
            head.remove(head.size() - 1);
        }
    }

    static int digits(List<Integer> order) {
        int v = 0, place = 1;
        for (int i : order) {
            v += i * place;
            place *= 8;
        }
        return v;
    }

    /** The days on which the orders end, worked slot by slot; rest of each as told. */
    int[] endDays(List<Order> order, int[] rest, int moreNights) {
        int[] end = new int[order.size()];
        int day = w.day, colour = w.colour, setting = w.setting, i = 0;
        int[] left = rest.clone();
        while (i < order.size()) {
            int slots = w.slots(day) + (day < w.day + moreNights ? 1 : 0);
            for (int s = 0; s < slots && i < order.size(); s++) {
                if (order.get(i).colour != colour) {
                    colour = order.get(i).colour;
                    setting = w.law[1];
                }
                if (setting > 0) {
                    setting--;
                } else if (--left[i] == 0) {
                    end[i] = day;
                    i++;
                }
            }
            day++;
        }
        return end;
    }

    static int[] restOf(List<Order> order) {
        return order.stream().mapToInt(o -> o.rest).toArray();
    }

    int[] endDays(List<Order> order) {
        return endDays(order, restOf(order), 0);
    }

    int worthOf(List<Order> order, int[] end) {
        int sum = 0;
        for (int i = 0; i < end.length; i++) sum += order.get(i).worthAt(end[i], w.law[2]);
        return sum;
    }

    static int lateOf(List<Order> order, int[] end) {
        int n = 0;
        for (int i = 0; i < end.length; i++) if (end[i] > order.get(i).by) n++;
        return n;
    }

    static List<Order> arranged(List<Order> jobs, List<Integer> p) {
        List<Order> order = new ArrayList<>();
        for (int i : p) order.add(jobs.get(i));
        return order;
    }

    /** The first order for which the score is greatest. */
    static List<Integer> first(List<Order> jobs, ToLongFunction<List<Order>> score) {
        List<Integer> best = null;
        long most = 0;
        for (List<Integer> p : permutations(jobs.size())) {
            long s = score.applyAsLong(arranged(jobs, p));
            if (best == null || s > most) {
                best = p;
                most = s;
            }
        }
        return best;
    }

    List<Integer> bestOrder(List<Order> jobs) {
        return first(jobs, o -> worthOf(o, endDays(o)));
    }

    int bestWorth(List<Order> jobs) {
        List<Order> o = arranged(jobs, bestOrder(jobs));
        return worthOf(o, endDays(o));
    }

    int ends(int job) {
        Order o = jobAt(job);
        return o == null ? BAD : endDays(w.plan)[w.plan.indexOf(o)];
    }

    int late() {
        int bits = 0;
        for (int i = 0; i < w.jobs.size(); i++) if (ends(i) > w.jobs.get(i).by) bits += 1 << i;
        return bits;
    }

    int worth() {
        return worthOf(w.plan, endDays(w.plan));
    }

    int best(int what) {
        return what == 0 ? bestWorth(w.jobs) : what == 1 ? digits(bestOrder(w.jobs)) : NO;
    }

    int leastLate(List<Order> jobs, int more) {
        int least = 99;
        for (List<Integer> p : permutations(jobs.size())) {
            List<Order> o = arranged(jobs, p);
            least = Math.min(least, lateOf(o, endDays(o, restOf(o), more)));
        }
        return least;
    }

    int fewest() {
        return leastLate(w.jobs, 0);
    }

    int soonest(int kind, int slots, int colour) {
        if (!asTold(kind, slots, colour, 0, 0)) return BAD;
        if (w.jobs.size() == 6) return FULL;
        Order o = new Order(kind, slots, colour, 60, 0);
        List<Order> all = new ArrayList<>(w.jobs);
        all.add(o);
        // With a later day there are never fewer orders.
        if (leastLate(all, 0) > 0) return NONE;
        int lo = w.day, hi = 60;
        while (lo < hi) {
            o.by = (lo + hi) / 2;
            if (leastLate(all, 0) == 0) hi = o.by;
            else lo = o.by + 1;
        }
        return lo;
    }

    int gain(int kind, int slots, int colour, int by, int price) {
        if (!asTold(kind, slots, colour, by, price) || w.jobs.size() == 6) return NO;
        List<Order> all = new ArrayList<>(w.jobs);
        all.add(new Order(kind, slots, colour, by, price));
        return bestWorth(all) - bestWorth(w.jobs);
    }

    int across(int what) {
        if (!in(what, 0, 1)) return NO;
        int who = -9, most = bestWorth(w.jobs);
        for (int i = 0; i < w.jobs.size(); i++) {
            List<Order> others = new ArrayList<>(w.jobs);
            int half = others.remove(i).price / 2;
            int then = bestWorth(others) + half;
            if (then > most) {
                most = then;
                who = i;
            }
        }
        return what == 0 ? who : most;
    }

    int nights() {
        for (int n = 0; n <= 9; n++) if (leastLate(w.jobs, n) == 0) return n;
        return NONE;
    }

    /** Of 4 to the number of jobs: what is counted of all outcomes, each as often as it comes. */
    long overOutcomes(List<Order> order, ToLongFunction<int[]> counted) {
        long sum = 0;
        for (int twice = 0; twice < 1 << order.size(); twice++) {
            long weight = 1;
            int[] rest = restOf(order);
            for (int i = 0; i < rest.length; i++) {
                boolean is = (twice >> i & 1) == 1;
                weight *= is ? w.law[3] : 4 - w.law[3];
                if (is) rest[i] *= 2;
            }
            if (weight > 0) sum += weight * counted.applyAsLong(endDays(order, rest, 0));
        }
        return sum;
    }

    static int part(long above, int n, int part) {
        BigInteger top = BigInteger.valueOf(above), below = BigInteger.valueOf(4).pow(n);
        BigInteger g = top.gcd(below);
        return (part == 0 ? top.divide(g) : below.divide(g)).intValueExact();
    }

    long sureOf(List<Order> order) {
        return overOutcomes(order, end -> lateOf(order, end) == 0 ? 1 : 0);
    }

    int sure(int part) {
        return in(part, 0, 1) ? part(sureOf(w.plan), w.plan.size(), part) : BAD;
    }

    int safest(int what) {
        if (!in(what, 0, 2)) return BAD;
        List<Integer> p = first(w.jobs, this::sureOf);
        return what == 0 ? digits(p) : part(sureOf(arranged(w.jobs, p)), p.size(), what - 1);
    }

    int mean(int part) {
        if (!in(part, 0, 1)) return NO;
        return part(overOutcomes(w.plan, end -> worthOf(w.plan, end)), w.plan.size(), part);
    }

    // ---- who may come

    int type(int kind, int slots, int colour, int patience, int price, int odds) {
        if (!asTold(kind, slots, colour, 0, price) || !in(patience, 0, 20) || !in(odds, 1, 4)) return BAD;
        if (odds + w.types.stream().mapToInt(t -> t[5]).sum() > 4) return STATE;
        if (w.types.size() == 3) return FULL;
        w.types.add(new int[] {kind, slots, colour, patience, price, odds});
        return w.types.size() - 1;
    }

    int typeOf(int type, int what) {
        return in(type, 0, w.types.size() - 1) && in(what, 0, 5) ? w.types.get(type)[what] : BAD;
    }

    /** As if four come alike often. */
    long aheadOf(List<Order> jobs, int n) {
        if (n == 0) return bestWorth(jobs);
        long sum = 0, away = aheadOf(jobs, n - 1);
        for (int face = 0; face < 4; face++) {
            int i = typeOn(face);
            if (i < 0) {
                sum += away;
                continue;
            }
            int[] t = w.types.get(i);
            List<Order> with = new ArrayList<>(jobs);
            with.add(new Order(t[0], t[1], t[2], w.day + t[3], t[4]));
            sum += Math.max(away, aheadOf(with, n - 1));
        }
        return sum;
    }

    int typeOn(int face) {
        int sum = 0;
        for (int i = 0; i < w.types.size(); i++) {
            sum += w.types.get(i)[5];
            if (face < sum) return i;
        }
        return -9;
    }

    int ahead(int n, int part) {
        if (!in(n, 0, 3) || !in(part, 0, 1) || w.jobs.size() + n > 5) return NO;
        return part(aheadOf(w.jobs, n), n, part);
    }

    int comes() {
        w.z = w.z * 1103515245 + 12345;
        return typeOn(w.z >>> 16 & 3);
    }

    int seed(int v) {
        int was = w.z;
        w.z = v;
        return was;
    }

    int goes() {
        if (w.day == 60) return STATE;
        int ended = 0;
        for (int s = w.slots(w.day); s > 0 && !w.plan.isEmpty(); s--) {
            Order o = w.plan.get(0);
            if (o.colour != w.colour) {
                w.colour = o.colour;
                w.setting = w.law[1];
            }
            if (w.setting > 0) {
                w.setting--;
            } else if (--o.rest == 0) {
                w.till += o.worthAt(w.day, w.law[2]);
                w.plan.remove(o);
                w.jobs.remove(o);
                ended++;
            }
        }
        w.day++;
        return ended;
    }

    int till() {
        return w.till;
    }

    // ---- rows

    int prove() {
        rows.clear();
        List<Integer> p = bestOrder(w.jobs);
        List<Order> o = arranged(w.jobs, p);
        int[] end = endDays(o);
        for (int i = 0; i < end.length; i++) rows.add(new int[] {p.get(i), end[i], o.get(i).worthAt(end[i], w.law[2])});
        return rows.size();
    }

    int row(int i, int what) {
        return in(i, 0, rows.size() - 1) && in(what, 0, 2) ? rows.get(i)[what] : NO;
    }

    int alterRow(int i, int what, int v) {
        int was = row(i, what);
        if (in(i, 0, rows.size() - 1) && in(what, 0, 2)) rows.get(i)[what] = v;
        return was;
    }

    int judge() {
        List<Order> order = new ArrayList<>();
        for (int i = 0; i < rows.size(); i++) {
            Order o = jobAt(rows.get(i)[0]);
            if (o == null || order.contains(o)) return i + 1;
            order.add(o);
            int end = endDays(order)[i];
            if (rows.get(i)[1] != end || rows.get(i)[2] != o.worthAt(end, w.law[2])) return i + 1;
        }
        return order.size() < w.jobs.size() ? 222 : 0;
    }

    // ---- the host: let Java itself tell what it refuses

    interface Host {
        int ask();
    }

    static int hosted(Host h) {
        try {
            return h.ask();
        } catch (NullPointerException e) {
            return -11;
        } catch (ArrayIndexOutOfBoundsException e) {
            return -12;
        } catch (ClassCastException e) {
            return -13;
        } catch (NegativeArraySizeException e) {
            return -14;
        } catch (ArithmeticException e) {
            return -15;
        }
    }

    int sheet(int sheet, int sort, int n) {
        if (!in(sheet, 0, 3) || !in(sort, -1, 3) || sort >= 0 && n > 40) return BAD;
        return hosted(() -> {
            sheets[sheet] = switch (sort) {
                case 0 -> new byte[n];
                case 1 -> new short[n];
                case 2 -> new int[n];
                case 3 -> new long[n];
                default -> null;
            };
            return 1;
        });
    }

    int put(int sheet, int i, int v) {
        if (!in(sheet, 0, 3)) return BAD;
        return hosted(() -> {
            Object s = sheets[sheet];
            if (s instanceof byte[] b) b[i] = (byte) v;
            else if (s instanceof short[] b) b[i] = (short) v;
            else if (s instanceof int[] b) b[i] = v;
            else ((long[]) s)[i] = v;
            return 1;
        });
    }

    int item(int sheet, int sort, int i) {
        if (!in(sheet, 0, 3) || !in(sort, 0, 3)) return BAD;
        return hosted(() -> switch (sort) {
            case 0 -> ((byte[]) sheets[sheet])[i];
            case 1 -> ((short[]) sheets[sheet])[i];
            case 2 -> ((int[]) sheets[sheet])[i];
            default -> (int) ((long[]) sheets[sheet])[i];
        });
    }

    int shelf(int shelf, int what, int n) {
        if (!in(shelf, 0, 3) || !in(what, 0, 2)) return BAD;
        if (what == 0 && jobAt(n) == null || what == 1 && !in(n, 0, 3)) return BAD;
        shelves[shelf] = what == 0 ? Integer.valueOf(n) : what == 1 ? sheets[n] : null;
        return 1;
    }

    class Job {
        int n, a;

        void began(int body) {
            trace.add(body);
        }

        int prints(int x) {
            began(10);
            return x + n;
        }

        int sets(int x) {
            began(11);
            return prints(x) * 2;
        }

        int shares(int x) {
            began(12);
            return x / (a - n);
        }

        int tells(int x) {
            began(13);
            return sets(x) ^ a;
        }
    }

    class Wedding extends Job {
        int sets(int x) {
            began(20);
            return super.sets(x) - a;
        }
    }

    class Poster extends Job {
        int prints(int x) {
            began(30);
            return super.prints(x) * 3;
        }

        int tells(int x) {
            began(31);
            return super.tells(x) + shares(n);
        }
    }

    class Ticket extends Poster {
        int shares(int x) {
            began(40);
            return super.shares(x + 2) ^ 1;
        }

        int prints(int x) {
            began(41);
            return super.prints(x) - n;
        }
    }

    class Urgent extends Wedding {
        int prints(int x) {
            began(50);
            return 0 - super.prints(x);
        }

        int sets(int x) {
            began(51);
            return super.sets(x) + prints(n);
        }
    }

    class Half extends Job {
        int tells(int x) {
            began(60);
            return super.tells(x) * 2;
        }

        int shares(int x) {
            began(61);
            return super.shares(x) + prints(a);
        }
    }

    Object held(int shelf) {
        if (!(shelves[shelf] instanceof Integer i)) return shelves[shelf];
        Order o = jobAt(i);
        if (o == null) return null;
        Job thing = switch (o.kind) {
            case 1 -> new Wedding();
            case 2 -> new Poster();
            case 3 -> new Ticket();
            case 4 -> new Urgent();
            case 5 -> new Half();
            default -> new Job();
        };
        thing.n = i;
        thing.a = o.price;
        return thing;
    }

    int taken(int shelf, int as) {
        if (!in(shelf, 0, 3) || !in(as, 0, 5) && !in(as, 10, 13)) return BAD;
        Object o = held(shelf);
        return hosted(() -> switch (as) {
            case 0 -> ((Job) o).n;
            case 1 -> ((Wedding) o).n;
            case 2 -> ((Poster) o).n;
            case 3 -> ((Ticket) o).n;
            case 4 -> ((Urgent) o).n;
            case 5 -> ((Half) o).n;
            case 10 -> ((byte[]) o).length;
            case 11 -> ((short[]) o).length;
            case 12 -> ((int[]) o).length;
            default -> ((long[]) o).length;
        });
    }

    int act(int shelf, int act, int x) {
        trace.clear();
        if (!in(shelf, 0, 3) || !in(act, 0, 3) || !(held(shelf) instanceof Job job)) return 0;
        return hosted(() -> switch (act) {
            case 0 -> job.prints(x);
            case 1 -> job.sets(x);
            case 2 -> job.shares(x);
            default -> job.tells(x);
        });
    }

    int trace(int i) {
        return in(i, 0, Math.min(30, trace.size()) - 1) ? trace.get(i) : NONE;
    }

    int many(int what) {
        return switch (what) {
            case 0 -> w.jobs.size();
            case 1 -> w.types.size();
            case 2 -> rows.size();
            case 3 -> tape.size();
            case 4 -> Math.min(30, trace.size());
            default -> BAD;
        };
    }

    // ---- kept

    int keep() {
        kept = w.twin();
        return 1;
    }

    int again() {
        if (kept == null) return NONE;
        w = kept.twin();
        return w.jobs.size();
    }
}
