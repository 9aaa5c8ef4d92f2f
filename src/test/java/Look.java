import java.util.LinkedHashMap;
import java.util.Map;

/** All that can be asked of an object, each answer by a name; some 350 calls, and the object is spoilt behind them. */
final class Look {
    private static final int[] SLOT_DAYS = {0, 1, 2, 3, 4, 5, 6, 7, 8, 9, 10, 58, 59, 60, 61, 99};
    private static final int[] TOLD_DAYS = {0, 2, 3, 5, 59, 60};

    private final Map<String, Integer> answers = new LinkedHashMap<>();

    Look(PressDays x) {
        for (int i = 0; i < 6; i++) {
            for (int k = 0; k < 3; k++) told("row " + i + " what " + k, x.row(i, k));
        }
        told("rows", x.many(2));
        for (int i = 0; i < 8; i++) told("trace " + i, x.trace(i));
        told("trace", x.many(4));
        host(x);
        board(x, "");
        told("tape", x.many(3));
        told("tape board", x.board());
        for (int i = 0; i < 6; i++) told("tape job " + i, x.jobOf(i, 4));
        told("kept", x.again());
        board(x, "kept ");
    }

    private void told(String name, int answer) {
        answers.put(name, answer);
    }

    private void host(PressDays x) {
        for (int i = 0; i < 4; i++) {
            for (int sort = 0; sort < 4; sort++) {
                for (int k = 0; k < 3; k++) told("sheet " + i + " sort " + sort + " item " + k, x.item(i, sort, k));
                told("shelf " + i + " as " + (10 + sort), x.taken(i, 10 + sort));
            }
            for (int as = 0; as < 6; as++) told("shelf " + i + " as " + as, x.taken(i, as));
        }
    }

    private void board(PressDays x, String whose) {
        told(whose + "jobs", x.many(0));
        told(whose + "types", x.many(1));
        for (int i = 0; i < 6; i++) {
            for (int k = 0; k < 5; k++) told(whose + "job " + i + " what " + k, x.jobOf(i, k));
            told(whose + "plan " + i, x.planOf(i));
        }
        for (int k = 0; k < 3; k++) told(whose + "press " + k, x.press(k));
        told(whose + "till", x.till());
        for (int day : SLOT_DAYS) told(whose + "slots " + day, x.slots(day));
        for (int i = 0; i < 3; i++) {
            for (int k = 0; k < 6; k++) told(whose + "type " + i + " what " + k, x.typeOf(i, k));
        }
        for (int law = 0; law < 4; law++) told(whose + "law " + law, x.set(law, 1));
        for (int day : TOLD_DAYS) {
            told(whose + "lost " + day, x.lose(day, 0));
            told(whose + "nights " + day, x.night(day, 0));
        }
        told(whose + "z", x.seed(1));
    }

    /** Each answer is as it was, but those whose names begin with one of these. */
    void compare(Due t, String call, Look was, String... but) {
        for (String name : answers.keySet()) {
            if (!beginsWithOne(name, but)) t.due(name + " behind " + call, answers.get(name), was.answers.get(name));
        }
    }

    private static boolean beginsWithOne(String name, String[] heads) {
        for (String head : heads) {
            if (name.startsWith(head)) return true;
        }
        return false;
    }
}
