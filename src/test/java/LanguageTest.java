import java.io.IOException;
import java.lang.reflect.Field;
import java.lang.reflect.Method;
import java.lang.reflect.Modifier;
import java.nio.file.Files;
import java.nio.file.Path;
import java.util.ArrayList;
import java.util.List;
import java.util.TreeSet;
import java.util.regex.Matcher;
import java.util.regex.Pattern;

/** What can be seen of ../shared/LANGUAGE.md in the program's text and in its compiled classes. */
public final class LanguageTest {
    private static final Due T = new Due("LanguageTest");
    /** The public methods of the document, each with its parameters; all answer an int. */
    private static final String FACE = "feed(long,int) board() job(int,int,int,int,int) jobOf(int,int) drop(int) "
        + "set(int,int) lose(int,int) night(int,int) slots(int) plan(int) planOf(int) press(int) ends(int) late() worth() "
        + "best(int) fewest() soonest(int,int,int) gain(int,int,int,int,int) across(int) nights() sure(int) safest(int) "
        + "mean(int) type(int,int,int,int,int,int) typeOf(int,int) ahead(int,int) comes() seed(int) goes() till() prove() "
        + "row(int,int) alterRow(int,int,int) judge() sheet(int,int,int) put(int,int,int) item(int,int,int) "
        + "shelf(int,int,int) taken(int,int) act(int,int,int) trace(int) many(int) keep() again()";
    private static final int MOST_LINES = 60, MOST_PARAMETERS = 7, MOST_FIELDS = 20, MOST_CLASSES = 12;

    public static void main(String[] args) throws IOException {
        String bare = bare(Files.readString(Path.of("src/main/java/PressDays.java")));
        for (String word : new String[] {"throw", "throws", "try", "catch", "synchronized", "assert", "import", "package",
            "protected", "instanceof", "double", "float", "Object", "System\\.(?!arraycopy)\\w+", "Math\\.\\w+Exact",
            "equals", "hashCode", "toString"}) {
            T.due("words " + word, count(bare, "\\b" + word + "\\b"), 0);
        }
        for (String sign : new String[] {"->", "::", "@", "\\bnew \\w+\\([^;]*\\)\\s*\\{", "\\bstatic\\s*\\{"}) {
            T.due("signs " + sign, count(bare, sign), 0);
        }
        // No reference is ever empty, so that none has to be asked whether it is.
        T.due("word null", count(bare, "\\bnull\\b"), 0);
        for (String type : new String[] {"Jobs", "Board", "Text", "Course", "Orders", "Chance", "Types", "Ahead", "Rows",
            "Shelves", "Thing", "int\\[\\]", "byte\\[\\]"}) {
            T.due("fields of " + type + " that can be set anew", count(bare, "\n +(private )?" + type + " \\w+( =[^\n]*)?;"), 0);
        }
        T.due("loops without an end", count(bare, "while \\(true\\)|for \\(;;\\)"), 0);
        lengths(bare);
        face();
        T.end();
    }

    /** Without comments and texts. */
    private static String bare(String source) {
        return source.replaceAll("(?s)/\\*.*?\\*/", "").replaceAll("//[^\n]*", "").replaceAll("\"[^\"\n]*\"", "\"\"");
    }

    private static int count(String s, String pattern) {
        Matcher m = Pattern.compile(pattern).matcher(s);
        int n = 0;
        while (m.find()) n++;
        return n;
    }

    private static void lengths(String bare) {
        int start = 0, line = 0;
        String indent = null;
        for (String l : bare.split("\n")) {
            line++;
            Matcher head = Pattern.compile("( {4}| {8})(?! )[\\w\\[\\] ]+\\([^;=]*\\) \\{").matcher(l);
            if (indent == null && head.matches()) {
                start = line;
                indent = head.group(1);
            } else if (indent != null && l.equals(indent + "}")) {
                if (line - start + 1 > MOST_LINES) T.due("lines of the method at " + start, line - start + 1, MOST_LINES);
                indent = null;
            }
        }
        T.due("each method has an end", indent == null ? 1 : 0, 1);
    }

    private static void face() {
        TreeSet<String> names = new TreeSet<>();
        TreeSet<String> due = new TreeSet<>(List.of(FACE.split(" ")));
        for (Method m : PressDays.class.getDeclaredMethods()) {
            if (!Modifier.isPublic(m.getModifiers())) {
                T.due(m + " is private", Modifier.isPrivate(m.getModifiers()) ? 1 : 0, 1);
                continue;
            }
            names.add(m.getName());
            String parameters = m.toString().replaceAll(".*PressDays\\.", "");
            T.due(m + " is of the document's face", due.remove(parameters) ? 1 : 0, 1);
            T.due(m + " answers an int", m.getReturnType() == int.class && !Modifier.isStatic(m.getModifiers()) ? 1 : 0, 1);
        }
        T.due("methods of the face that are missing: " + due, due.size(), 0);
        T.due("the class is public and final", PressDays.class.getModifiers(), Modifier.PUBLIC | Modifier.FINAL);
        TreeSet<String> constants = new TreeSet<>(List.of("BAD", "FULL", "NONE", "STATE", "NO"));
        for (Field f : PressDays.class.getDeclaredFields()) {
            int access = f.getModifiers() & (Modifier.PUBLIC | Modifier.PRIVATE);
            T.due(f + " is as it may be", access, constants.remove(f.getName()) ? Modifier.PUBLIC : Modifier.PRIVATE);
        }
        T.due("constants that are missing: " + constants, constants.size(), 0);
        T.due("constructors", PressDays.class.getConstructors().length, 1);
        List<Class<?>> classes = new ArrayList<>(List.of(PressDays.class.getDeclaredClasses()));
        for (Class<?> c : classes) T.due(c + " is static", Modifier.isStatic(c.getModifiers()) ? 1 : 0, 1);
        classes.add(PressDays.class);
        if (classes.size() > MOST_CLASSES) T.due("classes", classes.size(), MOST_CLASSES);
        for (Class<?> c : classes) oneClass(c, names);
    }

    private static void oneClass(Class<?> c, TreeSet<String> names) {
        int fields = 0;
        for (Field f : c.getDeclaredFields()) {
            boolean fixed = Modifier.isStatic(f.getModifiers());
            if (fixed) T.due(f + " is final", Modifier.isFinal(f.getModifiers()) ? 1 : 0, 1);
            else fields++;
        }
        if (fields > MOST_FIELDS) T.due("fields of " + c, fields, MOST_FIELDS);
        for (Method m : c.getDeclaredMethods()) {
            if (m.getParameterCount() > MOST_PARAMETERS) T.due("parameters of " + m, m.getParameterCount(), MOST_PARAMETERS);
            if (c != PressDays.class) T.due(m + " bears a name of the face", names.contains(m.getName()) ? 1 : 0, 0);
        }
    }
}
