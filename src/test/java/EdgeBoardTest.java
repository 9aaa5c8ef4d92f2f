/** Promises 1 to 13 at their edges, sentence by sentence: the last that is taken, the first that is refused. */
public final class EdgeBoardTest {
    private static final Due T = new Due("EdgeBoardTest");

    public static void main(String[] args) {
        constants();
        atFirst();
        apart();
        lastCall();
        feedSizes();
        feedBytes();
        fullTape();
        oldBytes();
        numbersOfText();
        namesOfText();
        eachByteAlone();
        eachByteBehind();
        eachByteBetween();
        brokenOff();
        faultIsFirst();
        sixJobs();
        lawsOfText();
        daysAreClear();
        jobNumbers();
        halves();
        dropsOfSix();
        daysApart();
        slotsOfDays();
        plansOfFew();
        planOfEach();
        T.end();
    }

    private static void constants() {
        T.promise(1);
        T.due("BAD", PressDays.BAD, -1);
        T.due("FULL", PressDays.FULL, -2);
        T.due("NONE", PressDays.NONE, -3);
        T.due("STATE", PressDays.STATE, -4);
        T.due("NO", PressDays.NO, -2147483648);
    }

    /** "at first": no slots lost, no nights on any day, all sheets missing, nothing on any shelf. */
    private static void atFirst() {
        T.promise(1);
        PressDays x = new PressDays();
        for (int day = 0; day <= 60; day++) {
            T.due("lose(" + day + ", 0)", x.lose(day, 0), 0);
            T.due("night(" + day + ", 0)", x.night(day, 0), 0);
            T.due("slots(" + day + ")", x.slots(day), 2);
        }
        for (int day = 61; day <= 99; day++) T.due("slots(" + day + ")", x.slots(day), 2);
        for (int i = 0; i < 4; i++) {
            for (int sort = 0; sort < 4; sort++) T.due("item(" + i + ", " + sort + ", 0)", x.item(i, sort, 0), -11);
            for (int as = 0; as < 6; as++) T.due("taken(" + i + ", " + as + ")", x.taken(i, as), -11);
            for (int as = 10; as < 14; as++) T.due("taken(" + i + ", " + as + ")", x.taken(i, as), -11);
            for (int act = 0; act < 4; act++) T.due("act(" + i + ", " + act + ", 1)", x.act(i, act, 1), 0);
        }
        T.due("trace(0)", x.trace(0), -3);
        T.due("jobOf(0, 0)", x.jobOf(0, 0), -1);
        T.due("planOf(0)", x.planOf(0), -1);
        T.due("typeOf(0, 0)", x.typeOf(0, 0), -1);
        T.due("plan(0)", x.plan(0), 1);
        T.due("judge()", x.judge(), 0);
        T.due("board()", x.board(), 0);
        T.due("goes()", x.goes(), 0);
    }

    /** What is done to one object isn't seen in another. */
    private static void apart() {
        T.promise(1);
        PressDays y = new PressDays();
        PressDays x = new PressDays();
        for (int i = 0; i < 6; i++) x.job(i, 1 + i, 1, i, i);
        for (int i = 0; i < 4; i++) x.set(i, 3);
        for (int i = 0; i < 3; i++) x.type(i, 1, 0, 0, 0, 1);
        for (int i = 0; i < 4; i++) {
            x.sheet(i, i, 5);
            x.shelf(i, i % 2, i);
        }
        x.lose(0, 3);
        x.night(60, 3);
        x.keep();
        x.prove();
        x.act(0, 3, 1);
        x.feed(0x3B, 1);
        x.seed(9);
        x.goes();
        new Look(y).compare(T, "calls on another object", new Look(new PressDays()));
    }

    /** "for at most 512 calls": the last of them answers as the first ones do. */
    private static void lastCall() {
        T.promise(1);
        PressDays x = new PressDays();
        for (int i = 0; i < 6; i++) x.job(i, 9, i % 2, 60, 99);
        for (int i = 0; i < 100; i++) {
            T.due("keep()", x.keep(), 1);
            T.due("prove()", x.prove(), 6);
            T.due("feed()", x.feed(0x3B, 1), 1);
            T.due("board() with a fault", x.board(), -100);
            T.due("again()", x.again(), 6);
        }
        T.due("safest(0), call 507", x.safest(0) >= 0 ? 1 : 0, 1);
        T.due("across(0), call 508", x.across(0), -9);
        T.due("ahead(0, 0), call 509", x.ahead(0, 0), PressDays.NO);
        T.due("shelf(), call 510", x.shelf(3, 0, 5), 1);
        T.due("act(), call 511", x.act(3, 3, 1), ((1 + 5) * 2 ^ 99) * 2);
        T.due("trace(3), call 512", x.trace(3), 10);
    }

    /** "n bytes (1 to 8)", "more than 200". */
    private static void feedSizes() {
        T.promise(2);
        PressDays x = new PressDays();
        int sum = 0;
        for (int n = 1; n <= 8; n++) {
            sum += n;
            T.due("feed(0, " + n + ")", x.feed(0, n), sum);
        }
        for (int n : new int[] {-8, 0, 9, 16, 64}) T.due("feed(0, " + n + ")", x.feed(0, n), -1);
        T.due("many(3)", x.many(3), 36);
        for (int n = 1; n <= 8; n++) {
            x = new PressDays();
            for (int i = 0; i < 24; i++) x.feed(0, 8);
            x.feed(0, 9 - n);
            T.due("feed " + n + " of " + (201 - n), x.feed(0, n), -2);
            T.due("many(3)", x.many(3), 201 - n);
            if (n == 1) continue;
            T.due("feed " + (n - 1) + " of " + (201 - n), x.feed(0, n - 1), 200);
            T.due("feed 1 of 200", x.feed(0, 1), -2);
            T.due("feed 8 of 200", x.feed(0, 8), -2);
            T.due("feed 0 of 200", x.feed(0, 0), -1);
            T.due("feed 9 of 200", x.feed(0, 9), -1);
        }
    }

    /** "the lowest of eight first": of any n, and what lies above the n-th counts nothing. */
    private static void feedBytes() {
        T.promise(2);
        String s = "4 by 0;x";
        for (int n = 1; n <= 8; n++) {
            PressDays x = new PressDays();
            long eight = 0;
            for (int i = 7; i >= 0; i--) eight = eight << 8 | s.charAt(i);
            x.feed(eight, n);
            // "4", "by" and "0" may break off; a lonely "b" and what is behind "0" is at fault.
            int[] due = {-101, -102, -102, -104, -105, -106, -106, -106};
            T.due("board() of " + n + " bytes", x.board(), due[n - 1]);
        }
        PressDays x = new PressDays();
        x.feed(0xFFFFFFFFFFFFFF20L, 1);
        T.due("board() of a blank", x.board(), 0);
        x.feed(-1L, 8);
        T.due("board() of bytes 255", x.board(), -100);
    }

    private static PressDays tape(String s) {
        PressDays x = new PressDays();
        Due.feed(x, s);
        T.due("many(3) of \"" + s + "\"", x.many(3), s.length());
        return x;
    }

    /** A text may end with the last of 200 bytes; a fault may lie on it, or behind it. */
    private static void fullTape() {
        T.promise(3);
        T.due("board() of 200 blanks", tape(" ".repeat(200)).board(), 0);
        T.due("a job that ends at 200", tape(" ".repeat(186) + "3 by 2 for 12;").board(), 1);
        T.due("a byte at 199", tape(" ".repeat(199) + ";").board(), -299);
        T.due("a NAME that ends at 200", tape(" ".repeat(197) + "job").board(), -300);
        T.due("a wrong NAME that ends at 200", tape(" ".repeat(197) + "jox").board(), -297);
        T.due("a NUMBER that ends at 200", tape(" ".repeat(199) + "3").board(), -300);
        T.due("a NUMBER of 200", tape("1".repeat(200)).board(), -100);
        T.due("a NAME of 200", tape("a".repeat(200)).board(), -100);
        T.due("blanks to the end", tape("3 by 2 for 1" + " ".repeat(188)).board(), -300);
        PressDays x = tape("fine7;".repeat(33) + "  ");
        T.due("33 laws", x.board(), 0);
        T.due("the last of them", x.set(2, 7), 7);
    }

    /** "board() uses it up": what was there ahead stands behind no shorter text. */
    private static void oldBytes() {
        T.promise(3);
        String[] old = {";", "9", "z", " "};
        for (String o : old) {
            PressDays x = new PressDays();
            Due.feed(x, o.repeat(200));
            x.board();
            T.due("many(3)", x.many(3), 0);
            T.due("nothing behind " + o, x.board(), 0);
            T.due("3 by 2 for 1 behind " + o, Due.board(x, "3 by 2 for 1"), -112);
            T.due("slots behind " + o, Due.board(x, "slots"), -105);
            T.due("fine 1; behind " + o, Due.board(x, "fine 1;"), 0);
        }
    }

    private static int board(String s) {
        return Due.board(new PressDays(), s);
    }

    /** One of the numbers of a text: those that are right, and those that are a fault at its first digit. */
    private static void number(String head, String tail, int right, String[] taken, String[] refused) {
        for (String n : taken) T.due("board() of \"" + head + n + tail + "\"", board(head + n + tail), right);
        for (String n : refused) T.due("board() of \"" + head + n + tail + "\"", board(head + n + tail), -100 - head.length());
    }

    /** "a NUMBER too great or too small, of more digits". */
    private static void numbersOfText() {
        T.promise(3);
        String[] hundred = {"100", "000", "099", "0000000000000000000000000001", "4294967297"};
        number("", " by 1 for 1;", 1, new String[] {"1", "9", "01", "09"}, new String[] {"0", "00", "10", "11", "99", "001", "009"});
        number("half ", " by 1 for 1;", 1, new String[] {"1", "9"}, new String[] {"0", "10", "100"});
        number("1 by ", " for 1;", 1, new String[] {"0", "00", "9", "09", "10", "59", "60"}, new String[] {"61", "99", "060"});
        number("1 by ", " for 1;", 1, new String[] {"60"}, hundred);
        number("1 by 1 for ", ";", 1, new String[] {"0", "00", "9", "09", "10", "98", "99"}, hundred);
        number("fine ", ";", 0, new String[] {"0", "00", "9", "09", "10", "98", "99"}, hundred);
        number("slots ", ";", 0, new String[] {"1", "4", "01", "04"}, new String[] {"0", "00", "5", "05", "10", "001"});
        number("setting ", ";", 0, new String[] {"0", "3", "00", "03"}, new String[] {"4", "04", "10", "30", "000"});
        PressDays x = new PressDays();
        Due.board(x, "1 by 0 for 0; 9 black by 60 for 99; fine 99; slots 4; setting 3;");
        int[][] due = {{0, 1, 0, 0, 0}, {0, 9, 1, 60, 99}};
        for (int i = 0; i < 2; i++) {
            for (int k = 0; k < 5; k++) T.due("jobOf(" + i + ", " + k + ")", x.jobOf(i, k), due[i][k]);
        }
        int[] law = {4, 3, 99};
        for (int i = 0; i < 3; i++) T.due("set(" + i + ", 1)", x.set(i, 1), law[i]);
        Due.board(x, "fine 0; slots 1; setting 0;");
        for (int i = 0; i < 3; i++) T.due("set(" + i + ", 1)", x.set(i, 1), i == 0 ? 1 : 0);
    }

    /** Each NAME as it is; one letter less, more or other is another NAME. */
    private static void namesOfText() {
        T.promise(3);
        String[][] texts = {{"", "wedding", " 3 by 2 for 1;"}, {"", "poster", " 3 by 2 for 1;"},
            {"", "ticket", " 3 by 2 for 1;"}, {"", "urgent", " 3 by 2 for 1;"}, {"", "half", " 3 by 2 for 1;"},
            {"", "job", " 3 by 2 for 1;"}, {"", "slots", " 3;"}, {"", "fine", " 3;"}, {"", "setting", " 3;"},
            {"3 ", "black", " by 2 for 1;"}, {"3 ", "by", " 2 for 1;"}, {"3 by 2 ", "for", " 1;"}};
        for (String[] t : texts) {
            String name = t[1];
            int fault = -100 - t[0].length();
            T.due("board() with " + name, board(t[0] + name + t[2]) >= 0 ? 1 : 0, 1);
            String[] others = {name.substring(1), name.substring(0, name.length() - 1), name + "s", "a" + name,
                name + name, name.substring(0, name.length() - 1) + "z", "z" + name.substring(1), "quoin"};
            for (String other : others) T.due("board() with " + other, board(t[0] + other + t[2]), fault);
            T.due("board() with a great letter", board(t[0] + name.toUpperCase() + t[2]), fault);
            T.due("board() with a blank in it", board(t[0] + name.charAt(0) + " " + name.substring(1) + t[2]), fault);
        }
        int[] kind = {1, 2, 3, 4, 5, 0};
        for (int i = 0; i < 6; i++) {
            PressDays x = new PressDays();
            Due.board(x, texts[i][1] + texts[i][2]);
            T.due("kind of " + texts[i][1], x.jobOf(0, 0), kind[i]);
        }
    }

    /** Blanks (32) alone may stand as one likes; letters are a to z, digits 0 to 9, of 256 bytes. */
    private static void eachByteAlone() {
        T.promise(3);
        for (int b = 0; b < 256; b++) {
            int due = b == ' ' ? 0 : b >= '1' && b <= '9' ? -101 : -100;
            T.due("board() of byte " + b, board("" + (char) b), due);
        }
    }

    private static void eachByteBehind() {
        T.promise(3);
        String job = "3 by 2 for 1;";
        for (int b = 0; b < 256; b++) {
            int due = b == ' ' ? 1 : b >= '1' && b <= '9' ? -114 : -113;
            T.due("board() of a job and byte " + b, board(job + (char) b), due);
        }
    }

    private static void eachByteBetween() {
        T.promise(3);
        for (int b = 0; b < 256; b++) {
            boolean isDigit = b >= '0' && b <= '9';
            // A digit makes the NUMBER greater than 9, a letter makes another NAME, the rest can't stand there.
            int due = b == ' ' ? 1 : isDigit ? -100 : -101;
            T.due("3, byte " + b + ", by", board("3" + (char) b + "by 2 for 1;"), due);
            if (!isDigit) T.due("by, byte " + b + ", 2", board("3 by" + (char) b + "2 for 1;"), b == ' ' ? 1 : isLetter(b) ? -102 : -104);
            if (b != ';') T.due("1, byte " + b, board("3 by 2 for 1" + (char) b), b == ' ' || isDigit ? -113 : -112);
        }
    }

    private static boolean isLetter(int b) {
        return b >= 'a' && b <= 'z';
    }

    /** "or the end, if more must come": a right text, broken off behind each of its bytes. */
    private static void brokenOff() {
        T.promise(3);
        String s = "wedding 9 black by 60 for 99; fine 12 ; job 3 by 2 for 1;";
        int behindJob = 29, behindLaw = 39;
        String name = "";
        for (int n = 0; n <= s.length(); n++) {
            String head = s.substring(0, n);
            name = n > 0 && isLetter(s.charAt(n - 1)) ? name + s.charAt(n - 1) : "";
            boolean isPart = !name.isEmpty() && !" wedding black by for fine job ".contains(" " + name + " ");
            int due = isPart ? -100 - (n - name.length()) : -100 - n;
            if (n == 0) due = 0;
            if (n == behindJob || n == behindJob + 1 || n == behindLaw || n == behindLaw + 1) due = 1;
            if (n == s.length()) due = 2;
            T.due("board() of \"" + head + "\"", board(head), due);
        }
        T.due("blanks behind what breaks off", board("job   "), -106);
    }

    /** Of two faults the first one counts, whatever it is. */
    private static void faultIsFirst() {
        T.promise(3);
        T.due("two laws", board("slots 5; fine 100;"), -106);
        T.due("a number, then the end", board("wedding 0"), -108);
        T.due("a number, then a byte", board("job 10 ! by"), -104);
        T.due("a job without a number", board("job by 2 for 1;"), -104);
        T.due("a NAME of the colour ahead", board("black 3 by 2 for 1;"), -100);
        T.due("two jobs in one", board("3 by 2 job 3 by 2 for 1;"), -107);
        T.due("a law in a job", board("3 by 2 fine 3;"), -107);
        T.due("a law without its number", board("fine;"), -104);
        T.due("two numbers of a law", board("fine 3 4;"), -107);
        T.due("no stop between", board("fine 3 slots 3;"), -107);
        T.due("two stops", board("fine 3;;"), -107);
        T.due("a stop alone", board("  ;"), -102);
    }

    /** "the first NAME or NUMBER of a seventh JOB"; laws may follow six. */
    private static void sixJobs() {
        T.promise(3);
        String six = "1 by 1 for 1;".repeat(6);
        T.due("six", board(six), 6);
        String[] names = {"job", "wedding", "poster", "ticket", "urgent", "half"};
        for (String name : names) {
            T.due("six and " + name, board(six + " " + name + " 1 by 1 for 1;"), -179);
            T.due("six and " + name + " alone", board(six + name), -178);
        }
        for (String n : new String[] {"1", "9", "0", "100"}) T.due("six and " + n, board(six + "  " + n + " by 1 for 1;"), -180);
        T.due("six and a law", board(six + "slots 1; fine 3 ;setting 2;"), 6);
        T.due("six and a wrong law", board(six + "slots 0;"), -184);
        T.due("six and a law and a job", board(six + "fine 0;1"), -185);
        T.due("five, a law and a job", board("fine 0;" + six), 6);
        PressDays x = new PressDays();
        for (int i = 0; i < 6; i++) x.job(0, 1, 0, 60, 1);
        T.due("one instead of six", Due.board(x, "half 9 by 1 for 1;"), 1);
        T.due("job(1..) is number 1", x.job(1, 1, 0, 1, 1), 1);
        T.due("none instead of two", x.board(), 0);
    }

    /** "LAWS that it tells (the last one of each counts), others stay". */
    private static void lawsOfText() {
        T.promise(3);
        String[] texts = {"slots 3;", "setting 3;", "fine 3;", "slots 1; slots 3;", "fine 3; 1 by 1 for 1; fine 4;",
            "setting 0; setting 2;setting 1;", "fine 5; slots 2; setting 1;"};
        int[][] due = {{3, 2, 9}, {4, 3, 9}, {4, 2, 3}, {3, 2, 9}, {4, 2, 4}, {4, 1, 9}, {2, 1, 5}};
        for (int i = 0; i < texts.length; i++) {
            PressDays x = new PressDays();
            int[] law = {4, 2, 9, 4};
            for (int k = 0; k < 4; k++) x.set(k, law[k]);
            T.due("board() of " + texts[i], Due.board(x, texts[i]), i == 4 ? 1 : 0);
            for (int k = 0; k < 3; k++) T.due("law " + k + " behind " + texts[i], x.set(k, 1), due[i][k]);
            T.due("ODDS behind " + texts[i], x.set(3, 1), 4);
        }
    }

    /** "no SLOTS are LOST, no NIGHTS", of any day; by a text with a fault they stay. */
    private static void daysAreClear() {
        T.promise(3);
        PressDays x = new PressDays();
        for (int day = 0; day <= 60; day++) {
            x.lose(day, 1 + day % 9);
            x.night(day, 9 - day % 9);
        }
        T.due("board() with a fault", Due.board(x, "fine"), -104);
        T.due("lose(60, 7)", x.lose(60, 7), 7);
        T.due("night(0, 9)", x.night(0, 9), 9);
        T.due("board()", x.board(), 0);
        for (int day = 0; day <= 60; day++) {
            T.due("lose(" + day + ", 0)", x.lose(day, 0), 0);
            T.due("night(" + day + ", 0)", x.night(day, 0), 0);
        }
    }

    /** Each number of a job at its least and most, and one step outside. */
    private static void jobNumbers() {
        T.promise(4);
        int[] least = {0, 1, 0, 0, 0}, most = {5, 9, 1, 60, 99};
        for (int k = 0; k < 5; k++) {
            PressDays x = new PressDays();
            for (int v : new int[] {least[k] - 1, most[k] + 1}) {
                int[] a = {0, 1, 0, 0, 0};
                a[k] = v;
                T.due("number " + k + " of a job: " + v, x.job(a[0], a[1], a[2], a[3], a[4]), -1);
            }
            T.due("many(0)", x.many(0), 0);
            for (int i = 0; i < 2; i++) {
                int[] a = {0, 1, 0, 0, 0};
                a[k] = i == 0 ? least[k] : most[k];
                T.due("number " + k + " of a job: " + a[k], x.job(a[0], a[1], a[2], a[3], a[4]), i);
                T.due("jobOf(" + i + ", " + k + ")", x.jobOf(i, k), a[k]);
            }
        }
        // Six at most; when one has gone there is room for one.
        PressDays x = new PressDays();
        for (int i = 0; i < 6; i++) T.due("job " + i, x.job(0, 1, 0, 0, i), i);
        T.due("job six", x.job(0, 1, 0, 0, 6), -2);
        x.goes();
        T.due("many(0) behind a day of two slots", x.many(0), 4);
        for (int i = 4; i < 6; i++) T.due("job " + i + " again", x.job(0, 1, 0, 0, i), i);
        T.due("job six again", x.job(0, 1, 0, 0, 6), -2);
    }

    /** "of a half LONG and 1 by 2": of no other kind. */
    private static void halves() {
        T.promise(4);
        int[] rest = {1, 1, 2, 2, 3, 3, 4, 4, 5};
        for (int slots = 1; slots <= 9; slots++) {
            PressDays x = new PressDays();
            for (int kind = 0; kind < 6; kind++) {
                x.job(kind, slots, 0, 0, 0);
                T.due("rest of kind " + kind, x.jobOf(kind, 1), kind == 5 ? rest[slots - 1] : slots);
            }
            Due.board(x, "half " + slots + " by 1 for 1;");
            T.due("rest of a half by text", x.jobOf(0, 1), rest[slots - 1]);
        }
    }

    /** "when one goes, those behind it are one less", in the plan, too. */
    private static void dropsOfSix() {
        T.promise(6);
        int[] plan = {3, 5, 0, 1, 4, 2};
        for (int gone = 0; gone < 6; gone++) {
            PressDays x = new PressDays();
            for (int i = 0; i < 6; i++) x.job(i, 9 - i, i % 2, 50 + i, 10 * i);
            x.plan(0241053);
            T.due("drop(" + gone + ")", x.drop(gone), 5);
            T.due("till()", x.till(), 0);
            int at = 0;
            for (int job : plan) {
                if (job == gone) continue;
                T.due("planOf(" + at + ")", x.planOf(at), job > gone ? job - 1 : job);
                at++;
            }
            for (int i = 0; i < 5; i++) {
                int was = i < gone ? i : i + 1;
                int[] due = {was, was == 5 ? 2 : 9 - was, was % 2, 50 + was, 10 * was};
                for (int k = 0; k < 5; k++) T.due("jobOf(" + i + ", " + k + ")", x.jobOf(i, k), due[k]);
            }
            T.due("jobOf(5, 0)", x.jobOf(5, 0), -1);
            T.due("planOf(5)", x.planOf(5), -1);
            T.due("drop(5)", x.drop(5), -1);
            for (int left = 4; left >= 0; left--) T.due("drop(0)", x.drop(0), left);
            T.due("drop(0) of none", x.drop(0), -1);
        }
    }

    /** Each of days 0 to 60 has its own. */
    private static void daysApart() {
        PressDays x = new PressDays();
        x.set(0, 4);
        for (int day = 0; day <= 60; day++) {
            T.promise(8);
            T.due("lose(" + day + ", ..)", x.lose(day, day % 10), 0);
            T.promise(9);
            T.due("night(" + day + ", ..)", x.night(day, day % 7), 0);
        }
        for (int day = 0; day <= 60; day++) {
            T.promise(10);
            T.due("slots(" + day + ")", x.slots(day), Math.max(0, 4 - day % 10) + day % 7);
            T.promise(8);
            T.due("lose(" + day + ", 9)", x.lose(day, 9), day % 10);
            T.promise(9);
            T.due("night(" + day + ", 9)", x.night(day, 9), day % 7);
        }
    }

    /** "SLOTS less those that are LOST, 0 at least, and NIGHTS more; DAYS behind 60 have SLOTS". */
    private static void slotsOfDays() {
        T.promise(10);
        for (int law = 1; law <= 4; law++) {
            PressDays x = new PressDays();
            x.set(0, law);
            for (int lost = 0; lost <= 9; lost++) {
                x.lose(60, lost);
                for (int night : new int[] {0, 1, 9}) {
                    x.night(60, night);
                    int due = (lost > law ? 0 : law - lost) + night;
                    T.due("slots(60) of " + law + ", " + lost + " lost, " + night + " nights", x.slots(60), due);
                }
            }
            for (int day : new int[] {59, 61, 62, 99}) T.due("slots(" + day + ")", x.slots(day), law);
            T.due("slots(100)", x.slots(100), -1);
            T.due("slots(-1)", x.slots(-1), -1);
        }
    }

    private static boolean isOrder(int digits, int n) {
        int seen = 0;
        for (int i = 0; i < n; i++) seen |= 1 << (digits >> 3 * i & 7);
        return digits >> 3 * n == 0 && seen == (1 << n) - 1;
    }

    /** "not each JOB once, or more digits": all digits there can be of none to three jobs, and some more. */
    private static void plansOfFew() {
        T.promise(11);
        for (int n = 0; n <= 3; n++) {
            PressDays x = new PressDays();
            int calls = 0;
            for (int digits = -1; digits <= (1 << 3 * n) + 8; digits++) {
                if (calls % 480 == 0) {
                    x = new PressDays();
                    for (int i = 0; i < n; i++) x.job(0, 1, 0, 0, 1);
                }
                calls++;
                boolean due = digits >= 0 && isOrder(digits, n);
                T.due("plan(" + digits + ") of " + n, x.plan(digits), due ? 1 : -1);
            }
        }
    }

    /** Of n jobs each one may be first; the order is the plan; a job that comes is last. */
    private static void planOfEach() {
        for (int n = 1; n <= 6; n++) {
            PressDays x = new PressDays();
            for (int i = 0; i < n; i++) x.job(0, 1, 0, 0, 1);
            for (int first = 0; first < n; first++) {
                int digits = 0;
                for (int i = 0; i < n; i++) digits |= (first + i) % n << 3 * i;
                T.promise(11);
                T.due("plan of " + n, x.plan(digits), 1);
                // A last 0 is the same number as no digit.
                int less = digits & (1 << 3 * (n - 1)) - 1;
                T.due("plan of one less", x.plan(less), less == digits ? 1 : -1);
                T.due("plan of one more", x.plan(digits | n << 3 * n), -1);
                T.due("plan of a seven in it", x.plan(digits | 7), -1);
                T.promise(12);
                for (int i = 0; i < n; i++) T.due("planOf(" + i + ")", x.planOf(i), (first + i) % n);
                T.due("planOf(" + n + ")", x.planOf(n), -1);
                T.due("planOf(-1)", x.planOf(-1), -1);
            }
            if (n == 6) continue;
            T.promise(4);
            T.due("job", x.job(0, 1, 0, 0, 1), n);
            T.due("planOf(" + n + ")", x.planOf(n), n);
        }
    }
}
